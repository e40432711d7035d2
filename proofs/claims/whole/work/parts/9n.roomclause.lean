/-! the model reads a room: clause by clause -/
def wRd (b j : Nat) : Prop := b = 576 ∨ b = 578 ∨ b = 580 ∨ b = 582 ∨ (b = 570 ∧ ((10 ≤ j ∧ j ≤ 12) ∨ (29 ≤ j ∧ j ≤ 32)))
def bnR (k : Nat) : Nat := [24, 32, 30, 2].getD k 0
/-- what has been read stands in the model -/
def MRm (τ : LH) (R : RM) : Prop := ∀ k, k < 4 → τ.1 570 (29 + k) = nI (R.1 k) ∧ R.1 k ≤ capR k ∧ ∀ r i, (r < R.1 k ∨ (k = 3 ∧ r = 0)) → i < nKR k → τ.1 (576 + 2 * k) (nKR k * r + i) = nI (R.2 k r i)
section
variable {τ τ' : LH} {B : Nat → Nat} {e a k d : Nat} {R : RM} {f : Int32}
theorem MRm.mS (h : MRm τ R) : MRm (mS τ a f d) R := fun k hk => by
  obtain ⟨h1, h2, h3⟩ := h k hk
  exact ⟨by rw [mS_f (by omega)]; exact h1, h2, fun r i hr hi => by rw [mS_n (by omega)]; exact h3 r i hr hi⟩
theorem FR.mS : FR wRd τ (mS τ a f d) := by
  unfold _root_.Jvm.Pilot.CLostPlacesLaw_law_r3427_12969d.mS
  exact ((FR.I (by unfold wRd; omega)).tr (FR.I (by unfold wRd; omega))).tr (FR.I (by unfold wRd; omega))
theorem cap_bn (hk : k < 4) {c : Nat} (hc : c < capR k) : nKR k * c + nKR k ≤ bnR k ∧ bnR k < 1000 ∧ c < 10 := by
  rcases (show k = 0 ∨ k = 1 ∨ k = 2 ∨ k = 3 by omega) with rfl | rfl | rfl | rfl
  · have : c < 8 := hc
    show 3 * c + 3 ≤ 24 ∧ 24 < 1000 ∧ c < 10
    omega
  · have : c < 8 := hc
    show 4 * c + 4 ≤ 32 ∧ 32 < 1000 ∧ c < 10
    omega
  · have : c < 10 := hc
    show 3 * c + 3 ≤ 30 ∧ 30 < 1000 ∧ c < 10
    omega
  · have : c < 1 := hc
    show 2 * c + 2 ≤ 2 ∧ 2 < 1000 ∧ c < 10
    omega
theorem mS_29 {j : Nat} {v : Int32} (hj : 29 ≤ j) : stI (mS τ a f d) 570 j v = mS (stI τ 570 j v) a f d := by
  unfold mS
  rw [stI_cm (i := 12) (j := j) (by omega), stI_cm (i := 11) (j := j) (by omega), stI_cm (i := 10) (j := j) (by omega)]
/-- a clause begun -/
theorem m_c68 (hR : MRm τ R) (hk : k < 4) (hc : R.1 k < capR k) : s_Model_readClause_68 (nI (kcR k)) 1 (mS τ a (-1) d) = s_Model_readItems (nI (kcR k)) (576 + 2 * k) (bnR k) (nI (nKR k * R.1 k)) (k + 2) (mS (stI τ 570 (29 + k) (nI (R.1 k + 1))) (a + 1) (-1) d) := by
  have hv := (hR k hk).1
  have c10 := (cap_bn hk hc).2.2
  have so : ∀ x : Option LH, (xb1 x fun s => s_Model_readClause_224 s) = x := fun x => by cases x <;> rfl
  have so2 : ∀ x : Option LH, (xb1 x fun s => some s) = x := fun x => by cases x <;> rfl
  unfold s_Model_readClause_68
  rw [if_neg (show ¬ (1 : Int32) = 0 by decide), mS_10, nI_1, mS_a]
  simp only [xl]
  rcases (show k = 0 ∨ k = 1 ∨ k = 2 ∨ k = 3 by omega) with rfl | rfl | rfl | rfl
  · rw [if_pos (show nI (kcR 0) = 115 by decide), mS_f (by omega), show τ.1 570 29 = nI (R.1 0) from hv, nI_1, mS_29 (by omega), mS_f (by omega), stI_570, if_pos rfl, so]
    rw [nI_pred, c3]
    rfl
  · rw [if_neg (show ¬ nI (kcR 1) = 115 by decide), if_pos (show nI (kcR 1) = 112 by decide), mS_f (by omega), show τ.1 570 30 = nI (R.1 1) from hv, nI_1, mS_29 (by omega), mS_f (by omega), stI_570, if_pos rfl, so]
    rw [nI_pred, c4]
    rfl
  · rw [if_neg (show ¬ nI (kcR 2) = 115 by decide), if_neg (show ¬ nI (kcR 2) = 112 by decide), if_pos (show nI (kcR 2) = 103 by decide), mS_f (by omega), show τ.1 570 31 = nI (R.1 2) from hv, nI_1, mS_29 (by omega), mS_f (by omega), stI_570, if_pos rfl, so]
    rw [nI_pred, c3]
    rfl
  · have h0 : R.1 3 = 0 := by have : R.1 3 < 1 := hc; omega
    rw [if_neg (show ¬ nI (kcR 3) = 115 by decide), if_neg (show ¬ nI (kcR 3) = 112 by decide), if_neg (show ¬ nI (kcR 3) = 103 by decide), mS_29 (by omega), so, h0]
    rfl
/-- which clause it is, and whether there is room for one more -/
theorem m_rClause (h : TM τ B e 571 0) (hR : MRm τ R) (ha : a ≤ e) : s_Model_readClause (mS τ a (-1) d) = match kiR (chA B e (sk B e a)) with
    | none => some (mS τ (sk B e a) (nI (sk B e a)) d)
    | some k => if R.1 k < capR k then s_Model_readClause_68 (nI (kcR k)) 1 (mS τ (sk B e a) (-1) d) else some (mS τ (sk B e a) (nI (sk B e a)) d) := by
  have h0 := (hR 0 (by omega)).1
  have h1 := (hR 1 (by omega)).1
  have h2 := (hR 2 (by omega)).1
  have h3 := (hR 3 (by omega)).1
  have b0 : R.1 0 ≤ 8 := (hR 0 (by omega)).2.1
  have b1 : R.1 1 ≤ 8 := (hR 1 (by omega)).2.1
  have b2 : R.1 2 ≤ 10 := (hR 2 (by omega)).2.1
  have b3 : R.1 3 ≤ 1 := (hR 3 (by omega)).2.1
  have hch := h.ch (a := sk B e a)
  have no : ∀ y, s_Model_readClause_67 y (mS τ (sk B e a) (-1) d) = some (mS τ (sk B e a) (nI (sk B e a)) d) := fun y => by
    unfold s_Model_readClause_67 s_Model_readClause_68
    rw [if_pos rfl, m_fails]
    rfl
  unfold s_Model_readClause
  rw [m_look h ha]
  simp only [xb2]
  generalize chA B e (sk B e a) = c at *
  have e1 : oc c = 115 ↔ c = 115 := oc_eq (c := c) (k := 115) (by omega) (by omega) (by omega)
  have e2 : oc c = 112 ↔ c = 112 := oc_eq (c := c) (k := 112) (by omega) (by omega) (by omega)
  have e3 : oc c = 103 ↔ c = 103 := oc_eq (c := c) (k := 103) (by omega) (by omega) (by omega)
  have e4 : oc c = 101 ↔ c = 101 := oc_eq (c := c) (k := 101) (by omega) (by omega) (by omega)
  unfold s_Model_readClause_20 s_Model_readClause_35 s_Model_readClause_50 s_Model_readClause_63
  rw [mS_f (by omega), mS_f (by omega), mS_f (by omega), mS_f (by omega), show τ.1 570 29 = nI (R.1 0) from h0, show τ.1 570 30 = nI (R.1 1) from h1, show τ.1 570 31 = nI (R.1 2) from h2, show τ.1 570 32 = nI (R.1 3) from h3]
  unfold kiR
  by_cases q1 : c = 115
  · subst q1
    rw [if_pos rfl]
    have o : oc 115 = 115 := rfl
    simp only [o]
    rw [if_pos trivial, if_neg (show ¬ (115 : Int32) = 112 by decide), if_neg (show ¬ (115 : Int32) = 103 by decide), if_neg (show ¬ (115 : Int32) = 101 by decide), no]
    show _ = if R.1 0 < 8 then _ else _
    by_cases z : R.1 0 < 8
    · rw [if_pos z, if_pos (show nI (R.1 0) < 8 from nI_lt (b := 8) z (by omega))]
      rfl
    · rw [if_neg z, if_neg (show ¬ nI (R.1 0) < 8 by rw [show R.1 0 = 8 by omega]; decide)]
  · rw [if_neg q1, if_neg (fun z => q1 (e1.mp z))]
    by_cases q2 : c = 112
    · subst q2
      rw [if_pos rfl]
      have o : oc 112 = 112 := rfl
      simp only [o]
      rw [if_pos trivial, if_neg (show ¬ (112 : Int32) = 103 by decide), if_neg (show ¬ (112 : Int32) = 101 by decide), no]
      show _ = if R.1 1 < 8 then _ else _
      by_cases z : R.1 1 < 8
      · rw [if_pos z, if_pos (show nI (R.1 1) < 8 from nI_lt (b := 8) z (by omega))]
        rfl
      · rw [if_neg z, if_neg (show ¬ nI (R.1 1) < 8 by rw [show R.1 1 = 8 by omega]; decide)]
    · rw [if_neg q2, if_neg (fun z => q2 (e2.mp z))]
      by_cases q3 : c = 103
      · subst q3
        rw [if_pos rfl]
        have o : oc 103 = 103 := rfl
        simp only [o]
        rw [if_pos trivial, if_neg (show ¬ (103 : Int32) = 101 by decide), no]
        show _ = if R.1 2 < 10 then _ else _
        by_cases z : R.1 2 < 10
        · rw [if_pos z, if_pos (show nI (R.1 2) < 10 from nI_lt (b := 10) z (by omega))]
          rfl
        · rw [if_neg z, if_neg (show ¬ nI (R.1 2) < 10 by rw [show R.1 2 = 10 by omega]; decide)]
      · rw [if_neg q3, if_neg (fun z => q3 (e3.mp z))]
        by_cases q4 : c = 101
        · subst q4
          rw [if_pos rfl]
          have o : oc 101 = 101 := rfl
          simp only [o]
          rw [if_pos trivial, no]
          show _ = if R.1 3 < 1 then _ else _
          by_cases z : R.1 3 < 1
          · rw [if_pos z, if_pos (show nI (R.1 3) = 0 by rw [show R.1 3 = 0 by omega]; rfl)]
            rfl
          · rw [if_neg z, if_neg (show ¬ nI (R.1 3) = 0 by rw [show R.1 3 = 1 by omega]; decide)]
        · rw [if_neg q4, if_neg (fun z => q4 (e4.mp z)), no]
/-- a clause read -/
theorem m_cRead (h : TM τ B e 571 0) (hR : MRm τ R) (hk : k < 4) (hc : R.1 k < capR k) (ha : a < e) : match pIt B e k (e + 1) (a + 1) 0 (usuR k) with
    | .inl f => ∃ a' τ', s_Model_readClause_68 (nI (kcR k)) 1 (mS τ a (-1) d) = some (mS τ' a' (nI f) d) ∧ FR wRd τ τ'
    | .inr q => ∃ τ', s_Model_readClause_68 (nI (kcR k)) 1 (mS τ a (-1) d) = some (mS τ' q.2 (-1) d) ∧ FR wRd τ τ' ∧ TM τ' B e 571 0 ∧ MRm τ' (addR R k q.1) := by
  obtain ⟨c1, c2, c3⟩ := cap_bn hk hc
  obtain ⟨τ1, hτ1⟩ : ∃ s, s = stI τ 570 (29 + k) (nI (R.1 k + 1)) := ⟨_, rfl⟩
  have f1 : FR wRd τ τ1 := by rw [hτ1]; exact FR.I (by unfold wRd; omega)
  have n1 : ∀ b, b ≠ 570 → τ1.1 b = τ.1 b := fun b hb => by rw [hτ1, stI_n hb]
  have tm : ∀ τ', FR wRd τ τ' → TM τ' B e 571 0 := fun τ' hf => by
    obtain ⟨h1, h2, h3, h4, h5⟩ := h
    refine ⟨by rw [hf.2]; exact h1, h2, by rw [hf.1 570 8 (by unfold wRd; omega)]; exact h3, by rw [hf.1 570 9 (by unfold wRd; omega)]; exact h4, fun i hi => by rw [hf.1 571 _ (by unfold wRd; omega)]; exact h5 i hi⟩
  rw [m_c68 hR hk hc, ← hτ1]
  have idF : stF τ1 (576 + 2 * k) (τ1.1 (576 + 2 * k)) = τ1 := stF_id
  have m := m_rItems (d := d) (A := τ1.1 (576 + 2 * k)) (tm τ1 f1) (show 576 + 2 * k ≠ 570 ∧ 576 + 2 * k ≠ 571 by omega) hk c1 c2 (show a + 1 ≤ e by omega)
  rw [idF] at m
  have fF : ∀ A', FR wRd τ (stF τ1 (576 + 2 * k) A') := fun A' => f1.tr ⟨fun b j q => by rw [stF_n (fun z => q (by unfold wRd; omega))], rfl⟩
  cases hp : pIt B e k (e + 1) (a + 1) 0 (usuR k) with
  | inl f =>
    rw [hp] at m
    obtain ⟨a', A', y1, y2⟩ := m
    exact ⟨a', _, y2, fF A'⟩
  | inr w =>
    rw [hp] at m
    obtain ⟨A', y1, y2, y3⟩ := m
    refine ⟨_, y3, fF A', tm _ (fF A'), fun j hj => ?_⟩
    obtain ⟨r1, r2, r3⟩ := hR j hj
    by_cases z : j = k
    · subst z
      refine ⟨?_, ?_, fun r i hr hi => ?_⟩
      · rw [stF_n (by omega), hτ1, stI_570, if_pos rfl]
        unfold addR
        simp only
        rw [if_pos trivial]
      · unfold addR
        simp only
        rw [if_pos trivial]
        exact hc
      · rw [stF_s]
        unfold addR at hr ⊢
        simp only at hr ⊢
        rw [if_pos trivial] at hr
        by_cases y : r = R.1 j
        · rw [if_pos ⟨trivial, y⟩, y]
          exact y2 i hi
        · rw [if_neg (fun x => y x.2)]
          have hr' : r < R.1 j := by
            rcases hr with x | ⟨x, x2⟩
            · omega
            · have : R.1 3 < 1 := by rw [← x]; have : capR j = 1 := by rw [x]; rfl
                                     omega
              omega
          have hx := Nat.mul_le_mul_left (nKR j) (show r + 1 ≤ R.1 j by omega)
          rw [Nat.mul_succ] at hx
          rw [y1 _ (Or.inl (by omega)), n1 _ (by omega)]
          exact r3 r i (Or.inl hr') hi
    · refine ⟨?_, ?_, fun r i hr hi => ?_⟩
      · rw [stF_n (by omega), hτ1, stI_570, if_neg (by omega)]
        unfold addR
        simp only
        rw [if_neg z]
        exact r1
      · unfold addR
        simp only
        rw [if_neg z]
        exact r2
      · rw [stF_n (by omega), n1 _ (by omega)]
        unfold addR at hr ⊢
        simp only at hr ⊢
        rw [if_neg z] at hr
        rw [if_neg (fun x => z x.1)]
        exact r3 r i hr hi
end
