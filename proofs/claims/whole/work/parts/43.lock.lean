/-! class and model: a block and a world that stand for the same -/
def Occ (P : Nat) (f : Nat → Int32) (s : Nat) (o : Int32) : Prop := (o = -1 ∧ ∀ p, p < P → f p ≠ nI s) ∨ ∃ p, p < P ∧ o = nI p ∧ f p = nI s ∧ ∀ q, q < P → f q = nI s → q = p
theorem soR_no {A : Nat → Int32} {x : Int32} : ∀ (m k : Nat), (∀ p, p < k + m → A (4 * p) ≠ x) → soR A x m k = -1 := by
  intro m
  induction m with
  | zero => intro k _; rfl
  | succ m ih =>
    intro k h
    unfold soR
    rw [if_neg (h k (by omega))]
    exact ih (k + 1) (fun p hp => h p (by omega))
theorem soR_yes {A : Nat → Int32} {x : Int32} {p : Nat} : ∀ (m k : Nat), k ≤ p → p < k + m → A (4 * p) = x → (∀ q, q < k + m → A (4 * q) = x → q = p) → soR A x m k = nI p := by
  intro m
  induction m with
  | zero => intro k h1 h2; omega
  | succ m ih =>
    intro k h1 h2 h3 h4
    unfold soR
    by_cases q : A (4 * k) = x
    · rw [if_pos q, h4 k (by omega) q]
    · rw [if_neg q]
      have : k ≠ p := fun z => q (z ▸ h3)
      exact ih (k + 1) (by omega) (by omega) h3 (fun q hq => h4 q (by omega))
theorem Occ.so {P s : Nat} {A : Nat → Int32} {o : Int32} (h : Occ P (fun p => A (4 * p)) s o) : soR A (nI s) P 0 = o := by
  rcases h with ⟨rfl, h⟩ | ⟨p, hp, rfl, h1, h2⟩
  · exact soR_no P 0 (fun p hp => h p (by omega))
  · exact soR_yes P 0 (by omega) (by omega) h1 (fun q hq => h2 q (by omega))
def Rw (S P : Nat) (w : Wd) (A : Nat → Int32) : Prop := (∀ p, p < P → w 1 p = A (4 * p)) ∧ (∀ p, p < P → w 2 p = A (4 * p + 1)) ∧ (∀ p, p < P → w 3 p = A (4 * p + 2)) ∧ (∀ p, p < P → w 4 p = A (4 * p + 3)) ∧ (∀ s, s < S → Occ P (fun p => A (4 * p)) s (w 5 s)) ∧ (∀ s, s < S → w 6 s = A (32 + 2 * s)) ∧ (∀ s, s < S → w 7 s = A (32 + 2 * s + 1)) ∧ w 0 7 = A 48
theorem Rw.c1 {S P : Nat} {w : Wd} {A : Nat → Int32} (h : Rw S P w A) : ∀ p, p < P → w 1 p = A (4 * p) := h.1
theorem Rw.c2 {S P : Nat} {w : Wd} {A : Nat → Int32} (h : Rw S P w A) : ∀ p, p < P → w 2 p = A (4 * p + 1) := h.2.1
theorem Rw.c3 {S P : Nat} {w : Wd} {A : Nat → Int32} (h : Rw S P w A) : ∀ p, p < P → w 3 p = A (4 * p + 2) := h.2.2.1
theorem Rw.c4 {S P : Nat} {w : Wd} {A : Nat → Int32} (h : Rw S P w A) : ∀ p, p < P → w 4 p = A (4 * p + 3) := h.2.2.2.1
theorem Rw.c5 {S P : Nat} {w : Wd} {A : Nat → Int32} (h : Rw S P w A) : ∀ s, s < S → Occ P (fun p => A (4 * p)) s (w 5 s) := h.2.2.2.2.1
theorem Rw.c6 {S P : Nat} {w : Wd} {A : Nat → Int32} (h : Rw S P w A) : ∀ s, s < S → w 6 s = A (32 + 2 * s) := h.2.2.2.2.2.1
theorem Rw.c7 {S P : Nat} {w : Wd} {A : Nat → Int32} (h : Rw S P w A) : ∀ s, s < S → w 7 s = A (32 + 2 * s + 1) := h.2.2.2.2.2.2.1
theorem Rw.m {S P : Nat} {w : Wd} {A : Nat → Int32} (h : Rw S P w A) : w 0 7 = A 48 := h.2.2.2.2.2.2.2
theorem Occ.cg {P s : Nat} {f g : Nat → Int32} {o : Int32} (h : Occ P f s o) (e : ∀ p, p < P → g p = f p) : Occ P g s o := by
  rcases h with ⟨h1, h⟩ | ⟨p, hp, h0, h1, h2⟩
  · exact Or.inl ⟨h1, fun p hp => by rw [e p hp]; exact h p hp⟩
  · exact Or.inr ⟨p, hp, h0, by rw [e p hp]; exact h1, fun q hq z => h2 q hq (by rw [← e q hq]; exact z)⟩
theorem Rw.cg {S P : Nat} {w w' : Wd} {A B : Nat → Int32} (h : Rw S P w A) (hS8 : S ≤ 8) (hP8 : P ≤ 8) (hB : ∀ j, j < 49 → B j = A j) (h1 : w' 1 = w 1) (h2 : w' 2 = w 2) (h3 : w' 3 = w 3) (h4 : w' 4 = w 4) (h5 : w' 5 = w 5) (h6 : w' 6 = w 6) (h7 : w' 7 = w 7) (h0 : w' 0 7 = w 0 7) : Rw S P w' B := by
  refine ⟨?_, ?_, ?_, ?_, ?_, ?_, ?_, ?_⟩
  · intro p hp
    rw [h1, hB _ (by omega)]; exact h.c1 p hp
  · intro p hp
    rw [h2, hB _ (by omega)]; exact h.c2 p hp
  · intro p hp
    rw [h3, hB _ (by omega)]; exact h.c3 p hp
  · intro p hp
    rw [h4, hB _ (by omega)]; exact h.c4 p hp
  · intro s hs
    rw [h5]; exact (h.c5 s hs).cg (fun p hp => hB _ (by omega))
  · intro s hs
    rw [h6, hB _ (by omega)]; exact h.c6 s hs
  · intro s hs
    rw [h7, hB _ (by omega)]; exact h.c7 s hs
  · rw [h0, hB _ (by omega)]; exact h.m
theorem upd_e {f : Nat → Int32} {i j : Nat} {v : Int32} : upd f i v j = if j = i then v else f j := rfl
theorem upd_upd {f : Nat → Int32} {i : Nat} {u v : Int32} : upd (upd f i u) i v = upd f i v := by
  funext j
  rw [upd_e, upd_e, upd_e]
  by_cases q : j = i
  · rw [if_pos q, if_pos q]
  · rw [if_neg q, if_neg q, if_neg q]
theorem nI_seat {s : Nat} (h : s < 8) : 0 ≤ nI s ∧ nI s < 8 := ⟨Int32.not_lt.mp (nI_pos (by omega)), nI_lt (b := 8) h (by omega)⟩
theorem wOff_5 {p j : Nat} {w : Wd} : wOff p w 5 j = if (0 ≤ w 1 p ∧ w 1 p < 8) ∧ j = (w 1 p).toNatClampNeg then -1 else w 5 j := by
  unfold wOff
  by_cases q : 0 ≤ w 1 p ∧ w 1 p < 8
  · rw [if_pos q, u2_e]
    by_cases q2 : j = (w 1 p).toNatClampNeg
    · rw [if_pos ⟨rfl, q2⟩, if_pos ⟨q, q2⟩]
    · rw [if_neg (fun z => q2 z.2), if_neg (fun z => q2 z.2)]
  · rw [if_neg q, if_neg (fun z => q z.1)]
theorem wOn_5 {p j : Nat} {to : Int32} {w : Wd} : wOn p to w 5 j = if (0 ≤ to ∧ to < 8) ∧ j = to.toNatClampNeg then nI p else w 5 j := by
  unfold wOn
  by_cases q : 0 ≤ to ∧ to < 8
  · rw [if_pos q, u2_e]
    by_cases q2 : j = to.toNatClampNeg
    · rw [if_pos ⟨rfl, q2⟩, if_pos ⟨q, q2⟩]
    · rw [if_neg (fun z => q2 z.2), if_neg (fun z => q2 z.2)]
  · rw [if_neg q, if_neg (fun z => q z.1)]
theorem wPut_5 {p j : Nat} {to : Int32} {w : Wd} : wPut p to w 5 j = if (0 ≤ to ∧ to < 8) ∧ j = to.toNatClampNeg then nI p else if (0 ≤ w 1 p ∧ w 1 p < 8) ∧ j = (w 1 p).toNatClampNeg then -1 else w 5 j := by
  unfold wPut
  rw [u2_c (by omega), u2_c (by omega), u2_c (by omega), wOn_5, wOff_5]
theorem wPut_2 {p j : Nat} {to : Int32} {w : Wd} : wPut p to w 2 j = if j = p then -1 else w 2 j := by
  unfold wPut
  rw [u2_c (by omega), u2_e]
  by_cases q : j = p
  · rw [if_pos ⟨rfl, q⟩, if_pos q]
  · rw [if_neg (fun z => q z.2), if_neg q, u2_c (by omega), wOn_c (by omega), wOff_c (by omega)]
theorem nI_seat_iff {s j : Nat} (h : s < 8) : ((0 ≤ nI s ∧ nI s < 8) ∧ j = (nI s).toNatClampNeg) ↔ j = s := by
  rw [nI_clamp (show s < 2 ^ 31 by omega)]
  exact ⟨fun z => z.2, fun z => ⟨nI_seat h, z⟩⟩
theorem plc_no {S j : Nat} {x : Int32} (h : plc S x) (hS8 : S ≤ 8) (hj : ∀ s, s < S → x = nI s → s ≠ j) : ¬ ((0 ≤ x ∧ x < 8) ∧ j = x.toNatClampNeg) := by
  rcases h with rfl | rfl | ⟨s, hs, rfl⟩
  · exact fun z => absurd z.1.1 (by decide)
  · exact fun z => absurd z.1.1 (by decide)
  · rw [nI_seat_iff (by omega)]
    exact fun z => hj s hs rfl z.symm
theorem nI_ij {a b : Nat} (ha : a < 2 ^ 31) (hb : b < 2 ^ 31) (h : nI a = nI b) : a = b := by
  have := congrArg Int32.toNatClampNeg h
  rwa [nI_clamp ha, nI_clamp hb] at this
theorem Rw.put {S P p : Nat} {y : Int32} {w : Wd} {A B : Nat → Int32} (h : Rw S P w A) (hS8 : S ≤ 8) (hP8 : P ≤ 8) (hp : p < P) (hx : plc S (A (4 * p))) (hy : plc S y) (hf : ∀ s, s < S → y = nI s → w 5 s = -1) (b0 : B (4 * p) = y) (b1 : B (4 * p + 1) = -1) (hB : ∀ j, j < 49 → j ≠ 4 * p → j ≠ 4 * p + 1 → B j = A j) : Rw S P (wPut p y w) B := by
  refine ⟨?_, ?_, ?_, ?_, ?_, ?_, ?_, ?_⟩
  · intro q hq
    rw [wPut_1]
    by_cases e : q = p
    · rw [if_pos e, e, b0]
    · rw [if_neg e, hB _ (by omega) (by omega) (by omega)]; exact h.c1 q hq
  · intro q hq
    rw [wPut_2]
    by_cases e : q = p
    · rw [if_pos e, e, b1]
    · rw [if_neg e, hB _ (by omega) (by omega) (by omega)]; exact h.c2 q hq
  · intro q hq
    rw [wPut_c (by omega) (by omega) (by omega) (by omega), hB _ (by omega) (by omega) (by omega)]; exact h.c3 q hq
  · intro q hq
    rw [wPut_c (by omega) (by omega) (by omega) (by omega), hB _ (by omega) (by omega) (by omega)]; exact h.c4 q hq
  · intro s hs
    have fB : ∀ q, q < P → q ≠ p → B (4 * q) = A (4 * q) := fun q hq e => hB _ (by omega) (by omega) (by omega)
    rw [wPut_5, h.c1 p hp]
    by_cases e1 : y = nI s
    · rw [e1, if_pos ((nI_seat_iff (by omega)).mpr rfl)]
      have hf1 := hf s hs e1
      have ho := h.c5 s hs
      rw [hf1] at ho
      rcases ho with ⟨-, ho⟩ | ⟨q, hq, ho, -⟩
      · refine Or.inr ⟨p, hp, rfl, b0.trans e1, fun q hq z => ?_⟩
        by_cases e : q = p
        · exact e
        · exact absurd ((fB q hq e).symm.trans z) (ho q hq)
      · exact absurd ho.symm (nI_m1 (by omega))
    · rw [if_neg (plc_no hy hS8 (fun t ht z => by intro e2; subst e2; exact e1 z))]
      by_cases e2 : A (4 * p) = nI s
      · rw [e2, if_pos ((nI_seat_iff (by omega)).mpr rfl)]
        refine Or.inl ⟨rfl, fun q hq z => ?_⟩
        by_cases e : q = p
        · subst e; exact e1 (b0.symm.trans z)
        · have z2 : A (4 * q) = nI s := (fB q hq e).symm.trans z
          rcases h.c5 s hs with ⟨-, ho⟩ | ⟨r, hr, -, -, ho⟩
          · exact ho q hq z2
          · exact e ((ho q hq z2).trans (ho p hp e2).symm)
      · rw [if_neg (plc_no hx hS8 (fun t ht z => by intro e3; subst e3; exact e2 z))]
        rcases h.c5 s hs with ⟨h1, ho⟩ | ⟨r, hr, h1, h2, ho⟩
        · refine Or.inl ⟨h1, fun q hq z => ?_⟩
          by_cases e : q = p
          · subst e; exact e1 (b0.symm.trans z)
          · exact ho q hq ((fB q hq e).symm.trans z)
        · have hrp : r ≠ p := fun e => e2 (e ▸ h2)
          refine Or.inr ⟨r, hr, h1, (fB r hr hrp).trans h2, fun q hq z => ?_⟩
          by_cases e : q = p
          · subst e; exact absurd (b0.symm.trans z) e1
          · exact ho q hq ((fB q hq e).symm.trans z)
  · intro s hs
    rw [wPut_c (by omega) (by omega) (by omega) (by omega), hB _ (by omega) (by omega) (by omega)]; exact h.c6 s hs
  · intro s hs
    rw [wPut_c (by omega) (by omega) (by omega) (by omega), hB _ (by omega) (by omega) (by omega)]; exact h.c7 s hs
  · rw [wPut_0 (by omega), hB _ (by omega) (by omega) (by omega)]; exact h.m
theorem Rw.col2 {S P p : Nat} {v : Int32} {w : Wd} {A : Nat → Int32} (h : Rw S P w A) (hS8 : S ≤ 8) (hP8 : P ≤ 8) (hp : p < P) : Rw S P (u2 w 2 p v) (upd A (4 * p + 1) v) := by
  refine ⟨?_, ?_, ?_, ?_, ?_, ?_, ?_, ?_⟩
  · intro q hq
    rw [u2_c (by omega), pk_un (by omega)]; exact h.c1 q hq
  · intro q hq
    rw [u2_e, upd_e]
    by_cases e : q = p
    · rw [if_pos ⟨rfl, e⟩, if_pos (by omega)]
    · rw [if_neg (fun z => e z.2), if_neg (by omega)]; exact h.c2 q hq
  · intro q hq
    rw [u2_c (by omega), pk_un (by omega)]; exact h.c3 q hq
  · intro q hq
    rw [u2_c (by omega), pk_un (by omega)]; exact h.c4 q hq
  · intro s hs
    rw [u2_c (by omega)]; exact (h.c5 s hs).cg (fun q hq => pk_un (by omega))
  · intro s hs
    rw [u2_c (by omega), pk_un (by omega)]; exact h.c6 s hs
  · intro s hs
    rw [u2_c (by omega), pk_un (by omega)]; exact h.c7 s hs
  · rw [u2_c (by omega), pk_un (by omega)]; exact h.m
theorem Rw.col4 {S P p : Nat} {v : Int32} {w : Wd} {A : Nat → Int32} (h : Rw S P w A) (hS8 : S ≤ 8) (hP8 : P ≤ 8) (hp : p < P) : Rw S P (u2 w 4 p v) (upd A (4 * p + 3) v) := by
  refine ⟨?_, ?_, ?_, ?_, ?_, ?_, ?_, ?_⟩
  · intro q hq
    rw [u2_c (by omega), pk_un (by omega)]; exact h.c1 q hq
  · intro q hq
    rw [u2_c (by omega), pk_un (by omega)]; exact h.c2 q hq
  · intro q hq
    rw [u2_c (by omega), pk_un (by omega)]; exact h.c3 q hq
  · intro q hq
    rw [u2_e, upd_e]
    by_cases e : q = p
    · rw [if_pos ⟨rfl, e⟩, if_pos (by omega)]
    · rw [if_neg (fun z => e z.2), if_neg (by omega)]; exact h.c4 q hq
  · intro s hs
    rw [u2_c (by omega)]; exact (h.c5 s hs).cg (fun q hq => pk_un (by omega))
  · intro s hs
    rw [u2_c (by omega), pk_un (by omega)]; exact h.c6 s hs
  · intro s hs
    rw [u2_c (by omega), pk_un (by omega)]; exact h.c7 s hs
  · rw [u2_c (by omega), pk_un (by omega)]; exact h.m
theorem Rw.kept {S P s0 : Nat} {u v : Int32} {w : Wd} {A : Nat → Int32} (h : Rw S P w A) (hS8 : S ≤ 8) (hP8 : P ≤ 8) (hs0 : s0 < S) : Rw S P (u2 (u2 w 6 s0 u) 7 s0 v) (upd (upd A (32 + 2 * s0) u) (32 + 2 * s0 + 1) v) := by
  refine ⟨?_, ?_, ?_, ?_, ?_, ?_, ?_, ?_⟩
  · intro q hq
    rw [u2_c (by omega), u2_c (by omega), pk_un (by omega), pk_un (by omega)]; exact h.c1 q hq
  · intro q hq
    rw [u2_c (by omega), u2_c (by omega), pk_un (by omega), pk_un (by omega)]; exact h.c2 q hq
  · intro q hq
    rw [u2_c (by omega), u2_c (by omega), pk_un (by omega), pk_un (by omega)]; exact h.c3 q hq
  · intro q hq
    rw [u2_c (by omega), u2_c (by omega), pk_un (by omega), pk_un (by omega)]; exact h.c4 q hq
  · intro s hs
    rw [u2_c (by omega), u2_c (by omega)]; exact (h.c5 s hs).cg (fun q hq => by show upd (upd A (32 + 2 * s0) u) (32 + 2 * s0 + 1) v (4 * q) = _; rw [pk_un (by omega), pk_un (by omega)])
  · intro s hs
    rw [u2_c (by omega), u2_e, pk_un (by omega), upd_e]
    by_cases e : s = s0
    · rw [if_pos ⟨rfl, e⟩, if_pos (by omega)]
    · rw [if_neg (fun z => e z.2), if_neg (by omega)]; exact h.c6 s hs
  · intro s hs
    rw [u2_e, upd_e]
    by_cases e : s = s0
    · rw [if_pos ⟨rfl, e⟩, if_pos (by omega)]
    · rw [if_neg (fun z => e z.2), if_neg (by omega), u2_c (by omega), pk_un (by omega)]; exact h.c7 s hs
  · rw [u2_c (by omega), u2_c (by omega), pk_un (by omega), pk_un (by omega)]; exact h.m
theorem Rw.rel {S P s0 : Nat} {w : Wd} {A : Nat → Int32} (h : Rw S P w A) (hS8 : S ≤ 8) (hP8 : P ≤ 8) (hs0 : s0 < S) : Rw S P (wRel s0 w) (mRel s0 A) :=
  (h.kept (u := -1) (v := -1) hS8 hP8 hs0).cg hS8 hP8 (fun _ _ => rfl) (u2_c (by omega)) (u2_c (by omega)) (u2_c (by omega)) (u2_c (by omega)) (u2_c (by omega)) (u2_c (by omega)) (u2_c (by omega)) (u2_i (by omega))
/-- getting up -/
theorem Rw.up {S P p : Nat} {d : Int32} {w : Wd} {A : Nat → Int32} (h : Rw S P w A) (hS8 : S ≤ 8) (hP8 : P ≤ 8) (hp : p < P) (hx : plc S (A (4 * p))) {k : Nat} (hk : A (4 * p + 2) = nI k) (hk9 : k ≤ 9) {b : Int32} : Rw S P (wUp p d b w) (mUp p d b A) := by
  have h1 : Rw S P (wPut p (-2) w) (upd (upd A (4 * p) (-2)) (4 * p + 1) (-1)) := h.put hS8 hP8 hp hx (Or.inr (Or.inl rfl)) (fun s hs z => absurd z.symm (nI_m2 (by omega))) (by rw [pk_un (by omega), pk_us]) pk_us (fun j _ q1 q2 => by rw [pk_un q2, pk_un q1])
  have h2 : Rw S P (u2 (wPut p (-2) w) 2 p (w 0 7 + d)) (upd (upd A (4 * p) (-2)) (4 * p + 1) (A 48 + d)) := by
    have := h1.col2 (v := w 0 7 + d) hS8 hP8 hp
    refine this.cg hS8 hP8 (fun j _ => ?_) rfl rfl rfl rfl rfl rfl rfl rfl
    rw [h.m, upd_upd]
  have ek : (w 3 p ≤ 0) ↔ A (4 * p + 2) = 0 := by
    rw [h.c3 p hp, hk]
    constructor
    · intro z
      by_cases e : k = 0
      · rw [e]; rfl
      · exact absurd z (nI_ge (a := 0) (b := k) (by omega) (by omega))
    · intro z
      rw [z]
      exact Int32.le_refl _
  unfold wUp mUp
  rw [h.c1 p hp]
  rcases hx with e | e | ⟨s, hs, e⟩
  · rw [e, if_pos (Or.inr (Or.inr (by decide))), if_pos (Or.inl (by decide))]
    exact h2
  · rw [e, if_pos (Or.inr (Or.inr (by decide))), if_pos (Or.inl (by decide))]
    exact h2
  · by_cases q : b = 0 ∨ A (4 * p + 2) = 0
    · rw [if_pos (q.elim Or.inl (fun z => Or.inr (Or.inl (ek.mpr z)))), if_pos (Or.inr q)]
      exact h2
    · have n1 : ¬ (b = 0 ∨ w 3 p ≤ 0 ∨ ¬ (0 ≤ A (4 * p) ∧ A (4 * p) < 8)) := by
        rintro (z | z | z)
        · exact q (Or.inl z)
        · exact q (Or.inr (ek.mp z))
        · exact z (by rw [e]; exact nI_seat (by omega))
      have n2 : ¬ (A (4 * p) < 0 ∨ b = 0 ∨ A (4 * p + 2) = 0) := by
        rintro (z | z)
        · rw [e] at z; exact nI_pos (n := s) (by omega) z
        · exact q z
      rw [if_neg n1, if_neg n2, e, nI_clamp (show s < 2 ^ 31 by omega), h.c3 p hp, h.m]
      have := h2.kept (s0 := s) (u := nI p) (v := A 48 + A (4 * p + 2)) hS8 hP8 hs
      rw [h.m] at this
      exact this
