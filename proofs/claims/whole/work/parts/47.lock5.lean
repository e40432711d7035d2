/-! class and model: all that come back -/
theorem mBack_here {L : Nat → Nat → Int32} {S P p : Nat} {A : Nat → Int32} (hS8 : S ≤ 8) : mBack L S P p A (4 * p) ≠ -2 := by
  unfold mBack
  generalize upd A (4 * p + 1) (-1) = B
  rcases kfR_in (A := B) (x := nI p) S 0 with q | ⟨j, hj, q, -⟩
  · rw [q, if_pos rfl, pk_us]
    rcases bcR_free (L := L p) (P := P) (A := B) S 0 (-1) 0 (Or.inl rfl) with z | ⟨s, hs, z, -⟩
    · rw [z]; decide
    · rw [z]; exact nI_m2 (by omega)
  · rw [q, if_neg (nI_m1 (by omega)), pk_us]
    exact nI_m2 (by omega)
def Rem (P : Nat) (qn : Nat → Nat) (A : Nat → Int32) (y k : Nat) : Prop := ∀ j, j < P → cmB A j = true → qn j < y ∨ (qn j = y ∧ k ≤ j)
theorem st_backs_in {S P mm y : Nat} {tb L : Nat → Nat → Int32} {q qm : Nat → Int32} {qn : Nat → Nat} {w0 : Wd} {A0 : Nat → Int32} (hS8 : S ≤ 8) (hP8 : P ≤ 8) (hm : mm < 101) (hL : ∀ p s, p < P → s < S → tb p s = L p s) (hq : ∀ p, p < P → q p = nI (qn p) ∧ qn p < 10) (hqm : ∀ p, p < P → qm p = nI (qn p)) (hy : y < 10) : ∀ (m k N : Nat) (w : Wd) (A : Nat → Int32), k + m = P → QQ S P mm w0 A0 w A → cnB (cmB A) P 0 ≤ N → Rem P qn A y k → ∃ N' w', tbR tb q S P N w = tbR tb q S P N' w' ∧ QQ S P mm w0 A0 w' (itr (mBk L S P qm (nI y)) m k A) ∧ cnB (cmB (itr (mBk L S P qm (nI y)) m k A)) P 0 ≤ N' ∧ Rem P qn (itr (mBk L S P qm (nI y)) m k A) y P := by
  intro m
  induction m with
  | zero =>
    intro k N w A hk h hN hr
    have : k = P := by omega
    subst this
    exact ⟨N, w, rfl, h, hN, hr⟩
  | succ m ih =>
    intro k N w A hk h hN hr
    show ∃ N' w', _ ∧ QQ S P mm w0 A0 w' (itr (mBk L S P qm (nI y)) m (k + 1) (mBk L S P qm (nI y) k A)) ∧ cnB (cmB (itr (mBk L S P qm (nI y)) m (k + 1) (mBk L S P qm (nI y) k A))) P 0 ≤ N' ∧ Rem P qn (itr (mBk L S P qm (nI y)) m (k + 1) (mBk L S P qm (nI y) k A)) y P
    have hqk : qm k = nI y ↔ qn k = y := by
      rw [hqm k (by omega)]
      have := (hq k (by omega)).2
      exact ⟨fun z => nI_ij (by omega) (by omega) z, fun z => by rw [z]⟩
    by_cases e : cmB A k = true ∧ qn k = y
    · obtain ⟨e1, e2⟩ := e
      have e3 : A (4 * k) = -2 ∧ A (4 * k + 1) = A 48 := of_decide_eq_true e1
      have eM : mBk L S P qm (nI y) k A = mBack L S P k A := if_pos ⟨e3, hqk.mpr e2⟩
      rw [eM]
      obtain ⟨s1, s2⟩ := pkR_spec (w := w) hq (fun j hj => cm_iff hm h.1 h.2.1 hj) P 0 none (by omega) (fun _ i hi => by omega) (fun j hj => by cases hj)
      have hpk : pkR q w P 0 none = some k := by
        cases hp : pkR q w P 0 none with
        | none => have := s1 hp k (by omega); rw [e1] at this; cases this
        | some j =>
          obtain ⟨g1, g2, g3⟩ := s2 j hp
          have g4 := g3 k (by omega) e1
          have g5 := hr j g1 g2
          have : j = k := by omega
          rw [this]
      obtain ⟨h1, h2⟩ := st_back hS8 hP8 hm (by omega : k < P) hL h e3.1
      have hcp := cnB_pos (c := cmB A) e1 P 0 (by omega) (by omega)
      obtain ⟨N, rfl⟩ : ∃ n, N = n + 1 := ⟨N - 1, by omega⟩
      have et : tbR tb q S P (N + 1) w = tbR tb q S P N (wPut k (pfR tb k S 0 (-1) 0 w).1 (pfR tb k S 0 (-1) 0 w).2) := by
        rw [tbR, hpk]
      rw [et]
      have e48 : mBack L S P k A 48 = A 48 := h1.2.1.1.2.1.trans h.2.1.1.2.1.symm
      have dk : cmB (mBack L S P k A) k = false := decide_eq_false (fun z => mBack_here hS8 z.1)
      have dj : ∀ j, j ≠ k → j < P → cmB (mBack L S P k A) j = cmB A j := fun j q1 q2 => by
        obtain ⟨z1, z2⟩ := h2 j q1 q2
        unfold cmB
        rw [z1, z2, e48]
      have hcn : cnB (cmB (mBack L S P k A)) P 0 + 1 = cnB (cmB A) P 0 := by
        have g1 := cnB_one (c := cmB A) (d := fun j => if j = k then false else cmB A j) e1 (by simp) P 0 (by omega) (by omega) (fun j q1 => by simp [q1])
        rw [← g1, cnB_cg P 0 (fun j _ q2 => ?_)]
        by_cases z : j = k
        · rw [z, dk]; simp
        · rw [dj j z (by omega)]; simp [z]
      refine ih (k + 1) N _ _ (by omega) h1 (by omega) (fun j hj hcj => ?_)
      by_cases z : j = k
      · rw [z, dk] at hcj; cases hcj
      · rw [dj j z hj] at hcj
        have := hr j hj hcj
        omega
    · have eM : mBk L S P qm (nI y) k A = A := if_neg (fun z => e ⟨decide_eq_true z.1, hqk.mp z.2⟩)
      rw [eM]
      refine ih (k + 1) N w A (by omega) h hN (fun j hj hcj => ?_)
      have g := hr j hj hcj
      by_cases z : j = k
      · subst z
        have : qn j ≠ y := fun z2 => e ⟨hcj, z2⟩
        omega
      · omega
theorem st_backs_out {S P mm : Nat} {tb L : Nat → Nat → Int32} {q qm : Nat → Int32} {qn : Nat → Nat} {w0 : Wd} {A0 : Nat → Int32} (hS8 : S ≤ 8) (hP8 : P ≤ 8) (hm : mm < 101) (hL : ∀ p s, p < P → s < S → tb p s = L p s) (hq : ∀ p, p < P → q p = nI (qn p) ∧ qn p < 10) (hqm : ∀ p, p < P → qm p = nI (qn p)) : ∀ (n N : Nat) (w : Wd) (A : Nat → Int32), n ≤ 10 → QQ S P mm w0 A0 w A → cnB (cmB A) P 0 ≤ N → (∀ j, j < P → cmB A j = true → qn j < n) → QQ S P mm w0 A0 (tbR tb q S P N w) (bkO L S P qm n A) ∧ ∀ j, j < P → cmB (bkO L S P qm n A) j = false := by
  intro n
  induction n with
  | zero =>
    intro N w A hn h hN hr
    have hno : ∀ j, j < P → cmB A j = false := fun j hj => by
      cases hc : cmB A j with
      | false => rfl
      | true => have := hr j hj hc; omega
    have et : tbR tb q S P N w = w := by
      cases N with
      | zero => rfl
      | succ N =>
        obtain ⟨s1, s2⟩ := pkR_spec (w := w) hq (fun j hj => cm_iff hm h.1 h.2.1 hj) P 0 none (by omega) (fun _ i hi => by omega) (fun j hj => by cases hj)
        have hpk : pkR q w P 0 none = none := by
          cases hp : pkR q w P 0 none with
          | none => rfl
          | some j =>
            obtain ⟨g1, g2, -⟩ := s2 j hp
            rw [hno j g1] at g2; cases g2
        rw [tbR, hpk]
    rw [et]
    exact ⟨h, hno⟩
  | succ n ih =>
    intro N w A hn h hN hr
    obtain ⟨N', w', e1, h1, h2, h3⟩ := st_backs_in (y := n) hS8 hP8 hm hL hq hqm (by omega) P 0 N w A (by omega) h hN (fun j hj hc => by have := hr j hj hc; omega)
    rw [e1]
    exact ih N' w' _ (by omega) h1 h2 (fun j hj hc => by have := h3 j hj hc; omega)
theorem st_backs {S P mm : Nat} {tb L : Nat → Nat → Int32} {q qm : Nat → Int32} {qn : Nat → Nat} {w0 : Wd} {A0 : Nat → Int32} (hS8 : S ≤ 8) (hP8 : P ≤ 8) (hm : mm < 101) (hL : ∀ p s, p < P → s < S → tb p s = L p s) (hq : ∀ p, p < P → q p = nI (qn p) ∧ qn p < 10) (hqm : ∀ p, p < P → qm p = nI (qn p)) {w : Wd} {A : Nat → Int32} (h : QQ S P mm w0 A0 w A) : QQ S P mm w0 A0 (tbR tb q S P 8 w) (bkO L S P qm 10 A) ∧ ∀ j, j < P → cmB (bkO L S P qm 10 A) j = false :=
  st_backs_out hS8 hP8 hm hL hq hqm 10 8 w A (by omega) h (Nat.le_trans (cnB_le P 0) hP8) (fun j hj _ => (hq j hj).2)
