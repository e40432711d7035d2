/-! class and model: what holds of a world, and the first steps of a minute -/
def WI (S P mm : Nat) (A : Nat → Int32) : Prop := AOk S P mm A ∧ (∀ p, p < P → (A (4 * p) = -2 ∧ ∃ t, A (4 * p + 1) = nI t ∧ mm ≤ t ∧ t < 1000) ∨ (A (4 * p) ≠ -2 ∧ A (4 * p + 1) = -1)) ∧ (∀ p, p < P → ∃ k, k ≤ 9 ∧ A (4 * p + 2) = nI k) ∧ (∀ s, s < S → (A (32 + 2 * s) = -1 ∧ A (32 + 2 * s + 1) = -1) ∨ ∃ p, p < P ∧ ∃ t, A (32 + 2 * s) = nI p ∧ A (32 + 2 * s + 1) = nI t ∧ mm ≤ t ∧ t < 1000) ∧ (∀ s, s < S → A (32 + 2 * s) ≠ -1 → ∀ p, p < P → A (4 * p) ≠ nI s)
theorem WI.rel {S P mm s0 : Nat} {A : Nat → Int32} (h : WI S P mm A) (hS8 : S ≤ 8) (hP8 : P ≤ 8) (hs0 : s0 < S) : WI S P mm (mRel s0 A) := by
  obtain ⟨h1, h2, h3, h4, h5⟩ := h
  have lo : ∀ j, j < 32 → mRel s0 A j = A j := fun j hj => mRel_o (Or.inl hj) (by omega)
  have e6 : ∀ s, s < S → s ≠ s0 → mRel s0 A (32 + 2 * s) = A (32 + 2 * s) ∧ mRel s0 A (32 + 2 * s + 1) = A (32 + 2 * s + 1) := fun s _ q => by
    unfold mRel
    exact ⟨by rw [pk_un (by omega), pk_un (by omega)], by rw [pk_un (by omega), pk_un (by omega)]⟩
  have e7 : mRel s0 A (32 + 2 * s0) = -1 ∧ mRel s0 A (32 + 2 * s0 + 1) = -1 := by
    unfold mRel
    exact ⟨by rw [pk_un (by omega), pk_us], pk_us⟩
  refine ⟨h1.rel hP8 (by omega), fun p hp => ?_, fun p hp => ?_, fun s hs => ?_, fun s hs q p hp => ?_⟩
  · rw [lo _ (by omega), lo _ (by omega)]; exact h2 p hp
  · rw [lo _ (by omega)]; exact h3 p hp
  · by_cases e : s = s0
    · subst e; exact Or.inl e7
    · rw [(e6 s hs e).1, (e6 s hs e).2]; exact h4 s hs
  · rw [lo _ (by omega)]
    by_cases e : s = s0
    · subst e; exact absurd e7.1 q
    · rw [(e6 s hs e).1] at q; exact h5 s hs q p hp
/-- one is put to a seat that is free, or to the floor -/
theorem WI.put {S P mm p : Nat} {y : Int32} {A B : Nat → Int32} (h : WI S P mm A) (hS8 : S ≤ 8) (hP8 : P ≤ 8) (hp : p < P) (hy : plc S y) (hy2 : y ≠ -2) (hf : ∀ s, s < S → y = nI s → A (32 + 2 * s) = -1) (b0 : B (4 * p) = y) (b1 : B (4 * p + 1) = -1) (hB : ∀ j, j < 49 → j ≠ 4 * p → j ≠ 4 * p + 1 → B j = A j) (h49 : ∃ g, g ≤ 60 ∧ B 49 = nI g) : WI S P mm B := by
  obtain ⟨h1, h2, h3, h4, h5⟩ := h
  refine ⟨⟨fun q hq => ?_, ?_, h49⟩, fun q hq => ?_, fun q hq => ?_, fun s hs => ?_, fun s hs z q hq => ?_⟩
  · by_cases e : q = p
    · rw [e, b0]; exact hy
    · rw [hB _ (by omega) (by omega) (by omega)]; exact h1.1 q hq
  · rw [hB _ (by omega) (by omega) (by omega)]; exact h1.2.1
  · by_cases e : q = p
    · rw [e, b0, b1]; exact Or.inr ⟨hy2, rfl⟩
    · rw [hB _ (by omega) (by omega) (by omega), hB _ (by omega) (by omega) (by omega)]; exact h2 q hq
  · rw [hB _ (by omega) (by omega) (by omega)]; exact h3 q hq
  · rw [hB _ (by omega) (by omega) (by omega), hB _ (by omega) (by omega) (by omega)]; exact h4 s hs
  · rw [hB _ (by omega) (by omega) (by omega)] at z
    by_cases e : q = p
    · rw [e, b0]; exact fun e2 => z (hf s hs e2)
    · rw [hB _ (by omega) (by omega) (by omega)]; exact h5 s hs z q hq
theorem WI.up {S P mm p d : Nat} {b : Int32} {w : Wd} {A : Nat → Int32} (h : WI S P mm A) (hR : Rw S P w A) (hS8 : S ≤ 8) (hP8 : P ≤ 8) (hm : mm < 101) (hp : p < P) (hd : d < 100) : WI S P mm (mUp p (nI d) b A) := by
  obtain ⟨h1, h2, h3, h4, h5⟩ := h
  have hok : AOk S P mm (mUp p (nI d) b A) := h1.goes hP8 hS8 hp
  obtain ⟨k, hk9, hk⟩ := h3 p hp
  have hx := h1.1 p hp
  have e48 : A 48 = nI mm := h1.2.1
  unfold mUp at hok ⊢
  rw [e48, nI_add] at hok ⊢
  by_cases q : A (4 * p) < 0 ∨ b = 0 ∨ A (4 * p + 2) = 0
  · rw [if_pos q] at hok ⊢
    have eB : ∀ j, j ≠ 4 * p → j ≠ 4 * p + 1 → upd (upd A (4 * p) (-2)) (4 * p + 1) (nI (mm + d)) j = A j := fun j q1 q2 => by rw [pk_un q2, pk_un q1]
    have e0 : upd (upd A (4 * p) (-2)) (4 * p + 1) (nI (mm + d)) (4 * p) = -2 := by rw [pk_un (by omega), pk_us]
    generalize hBB : upd (upd A (4 * p) (-2)) (4 * p + 1) (nI (mm + d)) = B at hok eB e0 ⊢
    have e1 : B (4 * p + 1) = nI (mm + d) := by rw [← hBB]; exact pk_us
    refine ⟨hok, fun r hr => ?_, fun r hr => ?_, fun s hs => ?_, fun s hs z r hr => ?_⟩
    · by_cases e : r = p
      · rw [e, e0, e1]; exact Or.inl ⟨rfl, mm + d, rfl, by omega, by omega⟩
      · rw [eB _ (by omega) (by omega), eB _ (by omega) (by omega)]; exact h2 r hr
    · rw [eB _ (by omega) (by omega)]; exact h3 r hr
    · rw [eB _ (by omega) (by omega), eB _ (by omega) (by omega)]; exact h4 s hs
    · rw [eB _ (by omega) (by omega)] at z
      by_cases e : r = p
      · rw [e, e0]; exact fun z => absurd z.symm (nI_m2 (by omega))
      · rw [eB _ (by omega) (by omega)]; exact h5 s hs z r hr
  · rw [if_neg q] at hok ⊢
    rcases hx with e | e | ⟨s0, hs0, e⟩
    · exact absurd (Or.inl (by rw [e]; decide)) q
    · exact absurd (Or.inl (by rw [e]; decide)) q
    · rw [hk, nI_add, e, nI_clamp (show s0 < 2 ^ 31 by omega)] at hok ⊢
      have eB : ∀ j, j ≠ 4 * p → j ≠ 4 * p + 1 → j ≠ 32 + 2 * s0 → j ≠ 32 + 2 * s0 + 1 → upd (upd (upd (upd A (4 * p) (-2)) (4 * p + 1) (nI (mm + d))) (32 + 2 * s0) (nI p)) (32 + 2 * s0 + 1) (nI (mm + k)) j = A j := fun j q1 q2 q3 q4 => by rw [pk_un q4, pk_un q3, pk_un q2, pk_un q1]
      have e0 : upd (upd (upd (upd A (4 * p) (-2)) (4 * p + 1) (nI (mm + d))) (32 + 2 * s0) (nI p)) (32 + 2 * s0 + 1) (nI (mm + k)) (4 * p) = -2 := by rw [pk_un (by omega), pk_un (by omega), pk_un (by omega), pk_us]
      have e1 : upd (upd (upd (upd A (4 * p) (-2)) (4 * p + 1) (nI (mm + d))) (32 + 2 * s0) (nI p)) (32 + 2 * s0 + 1) (nI (mm + k)) (4 * p + 1) = nI (mm + d) := by rw [pk_un (by omega), pk_un (by omega), pk_us]
      have e2 : upd (upd (upd (upd A (4 * p) (-2)) (4 * p + 1) (nI (mm + d))) (32 + 2 * s0) (nI p)) (32 + 2 * s0 + 1) (nI (mm + k)) (32 + 2 * s0) = nI p := by rw [pk_un (by omega), pk_us]
      generalize hBB : upd (upd (upd (upd A (4 * p) (-2)) (4 * p + 1) (nI (mm + d))) (32 + 2 * s0) (nI p)) (32 + 2 * s0 + 1) (nI (mm + k)) = B at hok eB e0 e1 e2 ⊢
      have e3 : B (32 + 2 * s0 + 1) = nI (mm + k) := by rw [← hBB]; exact pk_us
      refine ⟨hok, fun r hr => ?_, fun r hr => ?_, fun s hs => ?_, fun s hs z r hr => ?_⟩
      · by_cases e : r = p
        · rw [e, e0, e1]; exact Or.inl ⟨rfl, mm + d, rfl, by omega, by omega⟩
        · rw [eB _ (by omega) (by omega) (by omega) (by omega), eB _ (by omega) (by omega) (by omega) (by omega)]; exact h2 r hr
      · rw [eB _ (by omega) (by omega) (by omega) (by omega)]; exact h3 r hr
      · by_cases e : s = s0
        · subst e; rw [e2, e3]; exact Or.inr ⟨p, hp, mm + k, rfl, rfl, by omega, by omega⟩
        · rw [eB _ (by omega) (by omega) (by omega) (by omega), eB _ (by omega) (by omega) (by omega) (by omega)]; exact h4 s hs
      · by_cases e4 : r = p
        · rw [e4, e0]; exact fun z => absurd z.symm (nI_m2 (by omega))
        · rw [eB _ (by omega) (by omega) (by omega) (by omega)]
          by_cases e5 : s = s0
          · subst e5
            intro z2
            rcases hR.c5 s hs with ⟨-, ho⟩ | ⟨o, ho, -, -, hu⟩
            · exact ho p hp e
            · exact e4 ((hu r hr z2).trans (hu p hp e).symm)
          · rw [eB _ (by omega) (by omega) (by omega) (by omega)] at z
            exact h5 s hs z r hr
/-- (1) -/
theorem nI_le1 {a b : Nat} (ha : a < 2 ^ 31) (hb : b < 2 ^ 31) : (nI a ≤ nI b) ↔ a ≤ b := by
  constructor
  · intro h
    by_cases q : a ≤ b
    · exact q
    · exact absurd h (nI_ge (by omega) (by omega))
  · exact fun h => nI_le h hb
theorem st_rel {S P mm s : Nat} {w : Wd} {A : Nat → Int32} (hS8 : S ≤ 8) (hP8 : P ≤ 8) (hm : mm < 101) (hR : Rw S P w A) (hW : WI S P mm A) (hs : s < S) : Rw S P (wRelF s w) (mRl (nI mm) s A) ∧ WI S P mm (mRl (nI mm) s A) := by
  have e48 : A 48 = nI mm := hW.1.2.1
  unfold wRelF mRl
  rw [hR.c6 s hs, hR.c7 s hs, hR.m, e48]
  rcases hW.2.2.2.1 s hs with ⟨e1, e2⟩ | ⟨p, hp, t, e1, e2, e3, e4⟩
  · rw [if_neg (fun z => z.1 e1), if_neg (by rw [e2]; exact fun z => nI_m1 (k := mm) (by omega) z.symm)]
    exact ⟨hR, hW⟩
  · rw [e1, e2]
    by_cases q : t = mm
    · subst q
      rw [if_pos ⟨nI_m1 (by omega), Int32.le_refl _⟩, if_pos rfl]
      exact ⟨hR.rel hS8 hP8 hs, hW.rel hS8 hP8 hs⟩
    · rw [if_neg (fun z => q (by have := (nI_le1 (by omega) (by omega)).mp z.2; omega)), if_neg (fun z => q (nI_ij (by omega) (by omega) z))]
      exact ⟨hR, hW⟩
theorem st_itr {S P mm n : Nat} {f : Nat → Wd → Wd} {g : Nat → (Nat → Int32) → Nat → Int32} (hst : ∀ k w A, k < n → Rw S P w A → WI S P mm A → Rw S P (f k w) (g k A) ∧ WI S P mm (g k A)) : ∀ (m k : Nat) (w : Wd) (A : Nat → Int32), k + m ≤ n → Rw S P w A → WI S P mm A → Rw S P (itr f m k w) (itr g m k A) ∧ WI S P mm (itr g m k A) := by
  intro m
  induction m with
  | zero => intro k w A _ h1 h2; exact ⟨h1, h2⟩
  | succ m ih =>
    intro k w A hk h1 h2
    obtain ⟨h3, h4⟩ := hst k w A (by omega) h1 h2
    exact ih (k + 1) _ _ (by omega) h3 h4
/-- no seat is kept till now -/
def NK (S mm : Nat) (A : Nat → Int32) : Prop := ∀ s, s < S → A (32 + 2 * s + 1) ≠ nI mm
theorem nk_rel {S mm : Nat} (hS8 : S ≤ 8) (hm : mm < 101) : ∀ (m k : Nat) (A : Nat → Int32), k + m = S → (∀ s, s < k → A (32 + 2 * s + 1) ≠ nI mm) → NK S mm (itr (mRl (nI mm)) m k A) := by
  intro m
  induction m with
  | zero => intro k A hk h s hs; exact h s (by omega)
  | succ m ih =>
    intro k A hk h
    refine ih (k + 1) _ (by omega) (fun s hs => ?_)
    unfold mRl
    by_cases q : A (32 + 2 * k + 1) = nI mm
    · rw [if_pos q]
      unfold mRel
      by_cases e : s = k
      · subst e; rw [pk_us]; exact fun z => nI_m1 (k := mm) (by omega) z.symm
      · rw [pk_un (by omega), pk_un (by omega)]; exact h s (by omega)
    · rw [if_neg q]
      by_cases e : s = k
      · subst e; exact q
      · exact h s (by omega)
