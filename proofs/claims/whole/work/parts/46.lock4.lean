/-! class and model: who comes back -/
def cnB (c : Nat → Bool) : Nat → Nat → Nat
  | 0, _ => 0
  | m + 1, k => (if c k = true then 1 else 0) + cnB c m (k + 1)
theorem cnB_le {c : Nat → Bool} : ∀ (m k : Nat), cnB c m k ≤ m := by
  intro m
  induction m with
  | zero => intro k; exact Nat.le_refl _
  | succ m ih =>
    intro k
    unfold cnB
    have := ih (k + 1)
    split <;> omega
theorem cnB_cg {c d : Nat → Bool} : ∀ (m k : Nat), (∀ j, k ≤ j → j < k + m → d j = c j) → cnB d m k = cnB c m k := by
  intro m
  induction m with
  | zero => intro k _; rfl
  | succ m ih =>
    intro k h
    unfold cnB
    rw [h k (by omega) (by omega), ih (k + 1) (fun j h1 h2 => h j (by omega) (by omega))]
theorem cnB_one {c d : Nat → Bool} {p : Nat} (hc : c p = true) (hd : d p = false) : ∀ (m k : Nat), k ≤ p → p < k + m → (∀ j, j ≠ p → d j = c j) → cnB d m k + 1 = cnB c m k := by
  intro m
  induction m with
  | zero => intro k h1 h2; omega
  | succ m ih =>
    intro k h1 h2 h
    unfold cnB
    by_cases e : k = p
    · subst e
      rw [hc, hd, cnB_cg m (k + 1) (fun j q1 q2 => h j (by omega))]
      simp
      omega
    · have := ih (k + 1) (by omega) (by omega) h
      rw [h k e]
      omega
theorem cnB_pos {c : Nat → Bool} {p : Nat} (hc : c p = true) : ∀ (m k : Nat), k ≤ p → p < k + m → 0 < cnB c m k := by
  intro m
  induction m with
  | zero => intro k h1 h2; omega
  | succ m ih =>
    intro k h1 h2
    unfold cnB
    by_cases e : k = p
    · subst e
      rw [hc]
      simp
      omega
    · have := ih (k + 1) (by omega) (by omega)
      omega
def cmB (A : Nat → Int32) (k : Nat) : Bool := decide (A (4 * k) = -2 ∧ A (4 * k + 1) = A 48)
/-- one comes back at all -/
theorem cm_iff {S P mm k : Nat} {w : Wd} {A : Nat → Int32} (hm : mm < 101) (hR : Rw S P w A) (hW : WI S P mm A) (hk : k < P) : (w 1 k = -2 ∧ w 2 k ≤ w 0 7) ↔ cmB A k = true := by
  have e48 : A 48 = nI mm := hW.1.2.1
  unfold cmB
  rw [decide_eq_true_iff, hR.c1 k hk, hR.c2 k hk, hR.m, e48]
  rcases hW.2.1 k hk with ⟨e1, t, e2, e3, e4⟩ | ⟨e1, e2⟩
  · rw [e2]
    constructor
    · rintro ⟨h1, h2⟩
      have := (nI_le1 (by omega) (by omega)).mp h2
      exact ⟨h1, by rw [show t = mm by omega]⟩
    · rintro ⟨h1, h2⟩
      exact ⟨h1, by rw [h2]; exact Int32.le_refl _⟩
  · exact ⟨fun z => absurd z.1 e1, fun z => absurd z.1 e1⟩
theorem pkR_spec {q : Nat → Int32} {qn : Nat → Nat} {w : Wd} {c : Nat → Bool} {P : Nat} (hq : ∀ p, p < P → q p = nI (qn p) ∧ qn p < 10) (hc : ∀ k, k < P → ((w 1 k = -2 ∧ w 2 k ≤ w 0 7) ↔ c k = true)) : ∀ (m k : Nat) (f : Option Nat), k + m = P → (f = none → ∀ i, i < k → c i = false) → (∀ j, f = some j → j < k ∧ c j = true ∧ ∀ i, i < k → c i = true → qn i < qn j ∨ (qn i = qn j ∧ j ≤ i)) → (pkR q w m k f = none → ∀ i, i < P → c i = false) ∧ (∀ j, pkR q w m k f = some j → j < P ∧ c j = true ∧ ∀ i, i < P → c i = true → qn i < qn j ∨ (qn i = qn j ∧ j ≤ i)) := by
  intro m
  induction m with
  | zero =>
    intro k f hk h1 h2
    have : k = P := by omega
    subst this
    exact ⟨h1, h2⟩
  | succ m ih =>
    intro k f hk h1 h2
    unfold pkR
    have hck := hc k (by omega)
    by_cases e1 : c k = true
    · have e2 := hck.mpr e1
      by_cases e3 : bt q f k = true
      · rw [if_pos ⟨e2, e3⟩]
        refine ih (k + 1) (some k) (by omega) (fun z => by cases z) (fun j hj => ?_)
        cases hj
        refine ⟨by omega, e1, fun i hi hci => ?_⟩
        by_cases e4 : i = k
        · subst e4; exact Or.inr ⟨rfl, Nat.le_refl _⟩
        · cases hf : f with
          | none => have := h1 hf i (by omega); rw [this] at hci; cases hci
          | some j =>
            obtain ⟨g1, g2, g3⟩ := h2 j hf
            rw [hf] at e3
            unfold bt at e3
            have e5 := of_decide_eq_true e3
            rw [(hq j (by omega)).1, (hq k (by omega)).1] at e5
            have q1 := (hq j (by omega)).2
            have q2 := (hq k (by omega)).2
            have e6 : qn j < qn k := by
              by_cases z : qn k ≤ qn j
              · exact absurd e5 (Int32.not_lt.mpr (nI_le z (by omega)))
              · omega
            rcases g3 i (by omega) hci with g | g
            · exact Or.inl (by omega)
            · exact Or.inl (by omega)
      · rw [if_neg (fun z => e3 z.2)]
        cases hf : f with
        | none => rw [hf] at e3; exact absurd rfl e3
        | some j =>
          obtain ⟨g1, g2, g3⟩ := h2 j hf
          refine ih (k + 1) (some j) (by omega) (fun z => by cases z) (fun j' hj => ?_)
          cases hj
          refine ⟨by omega, g2, fun i hi hci => ?_⟩
          by_cases e4 : i = k
          · subst e4
            rw [hf] at e3
            have q1 := (hq j (by omega)).2
            have q2 := (hq i (by omega)).2
            by_cases z : qn j < qn i
            · refine absurd ?_ e3
              unfold bt
              exact decide_eq_true (by rw [(hq j (by omega)).1, (hq i (by omega)).1]; exact nI_lt z (by omega))
            · by_cases z2 : qn i < qn j
              · exact Or.inl z2
              · exact Or.inr ⟨by omega, by omega⟩
          · exact g3 i (by omega) hci
    · rw [if_neg (fun z => e1 (hck.mp z.1))]
      have e2 : c k = false := by cases h : c k with
        | true => exact absurd h e1
        | false => rfl
      refine ih (k + 1) f (by omega) (fun z i hi => ?_) (fun j hj => ?_)
      · by_cases e4 : i = k
        · subst e4; exact e2
        · exact h1 z i (by omega)
      · obtain ⟨g1, g2, g3⟩ := h2 j hj
        refine ⟨by omega, g2, fun i hi hci => ?_⟩
        by_cases e4 : i = k
        · subst e4; rw [e2] at hci; cases hci
        · exact g3 i (by omega) hci
theorem bcR_free {L : Nat → Int32} {P : Nat} {A : Nat → Int32} : ∀ (m k : Nat) (b mo : Int32), (b = -1 ∨ ∃ s, s < k + m ∧ b = nI s ∧ soR A (nI s) P 0 = -1 ∧ A (32 + 2 * s) = -1) → (bcR L P A m k b mo = -1 ∨ ∃ s, s < k + m ∧ bcR L P A m k b mo = nI s ∧ soR A (nI s) P 0 = -1 ∧ A (32 + 2 * s) = -1) := by
  intro m
  induction m with
  | zero => intro k b mo h; exact h
  | succ m ih =>
    intro k b mo h
    unfold bcR
    have e : k + (m + 1) = k + 1 + m := by omega
    rw [e] at h ⊢
    split
    · rename_i q
      exact ih (k + 1) _ _ (Or.inr ⟨k, by omega, rfl, q.1.1, q.1.2⟩)
    · exact ih (k + 1) _ _ h
theorem pfR_eq {tb : Nat → Nat → Int32} {L : Nat → Int32} {S P p : Nat} {w : Wd} {B : Nat → Int32} (hL : ∀ s, s < S → tb p s = L s) (h5 : ∀ s, s < S → w 5 s = soR B (nI s) P 0) (h6 : ∀ s, s < S → w 6 s = B (32 + 2 * s)) : ∀ (m k : Nat) (b mo : Int32), k + m = S → S ≤ 8 → (kfR B (nI p) m k = -1 ∧ pfR tb p m k b mo w = (bcR L P B m k b mo, w)) ∨ ∃ j, j < S ∧ B (32 + 2 * j) = nI p ∧ kfR B (nI p) m k = nI j ∧ pfR tb p m k b mo w = (nI j, wRel j w) := by
  intro m
  induction m with
  | zero => intro k b mo _ _; exact Or.inl ⟨rfl, rfl⟩
  | succ m ih =>
    intro k b mo hk hS8
    unfold kfR pfR bcR
    rw [h6 k (by omega), h5 k (by omega), hL k (by omega)]
    by_cases q : B (32 + 2 * k) = nI p
    · rw [if_pos q, if_pos q]
      exact Or.inr ⟨k, by omega, q, rfl, rfl⟩
    · rw [if_neg q, if_neg q]
      split
      · exact ih (k + 1) _ _ (by omega) hS8
      · exact ih (k + 1) _ _ (by omega) hS8
theorem mRel_e {s j : Nat} {A : Nat → Int32} : mRel s A j = if j = 32 + 2 * s + 1 then -1 else if j = 32 + 2 * s then -1 else A j := rfl
/-- one comes back -/
theorem st_back {S P mm p : Nat} {tb L : Nat → Nat → Int32} {w0 w : Wd} {A0 A : Nat → Int32} (hS8 : S ≤ 8) (hP8 : P ≤ 8) (hm : mm < 101) (hp : p < P) (hL : ∀ p s, p < P → s < S → tb p s = L p s) (h : QQ S P mm w0 A0 w A) (hc : A (4 * p) = -2) : QQ S P mm w0 A0 (wPut p (pfR tb p S 0 (-1) 0 w).1 (pfR tb p S 0 (-1) 0 w).2) (mBack L S P p A) ∧ ∀ j, j ≠ p → j < P → mBack L S P p A (4 * j) = A (4 * j) ∧ mBack L S P p A (4 * j + 1) = A (4 * j + 1) := by
  obtain ⟨hR, hW, hN, hK, hA⟩ := h
  obtain ⟨g, hg1, hg2⟩ := hW.1.2.2
  have eB : ∀ j, j ≠ 4 * p + 1 → upd A (4 * p + 1) (-1) j = A j := fun j q => pk_un q
  have eB1 : upd A (4 * p + 1) (-1) (4 * p + 1) = -1 := pk_us
  unfold mBack
  generalize hBB : upd A (4 * p + 1) (-1) = B at eB eB1 ⊢
  have h5 : ∀ s, s < S → w 5 s = soR B (nI s) P 0 := fun s hs => ((hR.c5 s hs).cg (fun q hq => eB (4 * q) (by omega)) |>.so).symm
  have h6 : ∀ s, s < S → w 6 s = B (32 + 2 * s) := fun s hs => by rw [eB _ (by omega)]; exact hR.c6 s hs
  have hx : plc S (A (4 * p)) := hW.1.1 p hp
  rcases pfR_eq (tb := tb) (L := L p) (p := p) (P := P) (fun s hs => hL p s hp hs) h5 h6 S 0 (-1) 0 (by omega) hS8 with ⟨e1, e2⟩ | ⟨j, hj, e0, e1, e2⟩
  · rw [e1, if_pos rfl, e2]
    have fr := bcR_free (L := L p) (P := P) (A := B) S 0 (-1) 0 (Or.inl rfl)
    generalize hy : bcR (L p) P B S 0 (-1) 0 = y at fr ⊢
    rw [Nat.zero_add] at fr
    have hy1 : plc S y := by
      rcases fr with z | ⟨s, hs, z, -⟩
      · exact Or.inl z
      · exact Or.inr (Or.inr ⟨s, hs, z⟩)
    have hy2 : y ≠ -2 := by
      rcases fr with z | ⟨s, hs, z, -⟩
      · rw [z]; decide
      · rw [z]; exact nI_m2 (by omega)
    have b0 : upd B (4 * p) y (4 * p) = y := pk_us
    have b1 : upd B (4 * p) y (4 * p + 1) = -1 := by rw [pk_un (by omega)]; exact eB1
    have bo : ∀ j, j ≠ 4 * p → j ≠ 4 * p + 1 → upd B (4 * p) y j = A j := fun j q1 q2 => by rw [pk_un q1]; exact eB j q2
    refine ⟨⟨hR.put hS8 hP8 hp hx hy1 (fun s hs z => ?_) b0 b1 (fun j _ => bo j), hW.put hS8 hP8 hp hy1 hy2 (fun s hs z => ?_) b0 b1 (fun j _ => bo j) ⟨g, hg1, by rw [bo _ (by omega) (by omega)]; exact hg2⟩, fun s hs => ?_, hK.tr kst_put, fun j hj => ?_⟩, fun j q1 q2 => ⟨bo _ (by omega) (by omega), bo _ (by omega) (by omega)⟩⟩
    · rcases fr with z2 | ⟨s', hs', z2, z3, -⟩
      · exact absurd (z.symm.trans z2) (nI_m1 (by omega))
      · have := nI_ij (by omega) (by omega) (z.symm.trans z2)
        subst this
        rw [h5 s hs]; exact z3
    · rcases fr with z2 | ⟨s', hs', z2, -, z3⟩
      · exact absurd (z.symm.trans z2) (nI_m1 (by omega))
      · have := nI_ij (by omega) (by omega) (z.symm.trans z2)
        subst this
        rw [← eB _ (by omega)]; exact z3
    · rw [bo _ (by omega) (by omega)]; exact hN s hs
    · rw [bo _ (by omega) (by omega)]; exact hA j hj
  · rw [e1, if_neg (nI_m1 (by omega)), e2, nI_clamp (show j < 2 ^ 31 by omega)]
    have hRr := hR.rel hS8 hP8 hj
    have hWr := hW.rel hS8 hP8 hj
    have e0' : A (32 + 2 * j) = nI p := by rw [← eB _ (by omega)]; exact e0
    have hem := hW.2.2.2.2 j hj (by rw [e0']; exact nI_m1 (by omega))
    have b0 : upd (mRel j B) (4 * p) (nI j) (4 * p) = nI j := pk_us
    have b1 : upd (mRel j B) (4 * p) (nI j) (4 * p + 1) = -1 := by rw [pk_un (by omega), mRel_o (by omega) (by omega)]; exact eB1
    have bo : ∀ i, i ≠ 4 * p → i ≠ 4 * p + 1 → upd (mRel j B) (4 * p) (nI j) i = mRel j A i := fun i q1 q2 => by rw [pk_un q1, mRel_e, mRel_e, eB i q2]
    have hy1 : plc S (nI j) := Or.inr (Or.inr ⟨j, hj, rfl⟩)
    refine ⟨⟨hRr.put hS8 hP8 hp (by rw [mRel_o (by omega) (by omega)]; exact hx) hy1 (fun s hs z => ?_) b0 b1 (fun j _ => bo j), hWr.put hS8 hP8 hp hy1 (nI_m2 (by omega)) (fun s hs z => ?_) b0 b1 (fun j _ => bo j) ⟨g, hg1, by rw [bo _ (by omega) (by omega), mRel_o (by omega) (by omega)]; exact hg2⟩, fun s hs => ?_, (hK.tr kst_rel).tr kst_put, fun i hi => ?_⟩, fun i q1 q2 => ⟨by rw [bo _ (by omega) (by omega), mRel_o (by omega) (by omega)], by rw [bo _ (by omega) (by omega), mRel_o (by omega) (by omega)]⟩⟩
    · have := nI_ij (by omega) (by omega) z
      subst this
      have e5 : wRel j w 5 j = w 5 j := by unfold wRel; rw [u2_c (by omega), u2_c (by omega), u2_c (by omega)]
      rw [e5]
      rcases hR.c5 j hj with ⟨z2, -⟩ | ⟨o, ho, -, z2, -⟩
      · exact z2
      · exact absurd z2 (hem o ho)
    · have := nI_ij (by omega) (by omega) z
      subst this
      rw [mRel_e]
      simp
    · rw [bo _ (by omega) (by omega), mRel_e]
      split
      · exact fun z => nI_m1 (k := mm) (by omega) z.symm
      · rw [if_neg (by omega)]; exact hN s hs
    · rw [bo _ (by omega) (by omega), mRel_o (by omega) (by omega)]; exact hA i hi
