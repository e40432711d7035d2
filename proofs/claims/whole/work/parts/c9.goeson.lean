/-! been: does the hall asked go on as now -/
section
variable {σ : LH} {h b : Nat}
theorem go_86 : ∀ (m f y : Nat), y + m = 8 → m < f → ∃ r, s_Hall_goesOnAs_86 h b f (nI y) σ = some (r, σ) ∧ (r = 0 ∨ (r = 1 ∧ ∀ i, y ≤ i → i < 8 → σ.1 (h + 6) i = σ.1 (b + 6) i ∧ σ.1 (h + 7) i = σ.1 (b + 7) i)) := by
  intro m
  induction m with
  | zero =>
    intro f y hy hf
    obtain ⟨f, rfl⟩ : ∃ q, f = q + 1 := ⟨f - 1, by omega⟩
    refine ⟨1, ?_, Or.inr ⟨rfl, fun i h1 h2 => absurd h1 (by omega)⟩⟩
    rw [s_Hall_goesOnAs_86]
    unfold s_Hall_goesOnAs_86_b
    rw [if_pos (show (8 : Int32) ≤ nI y from nI_le (a := 8) (b := y) (by omega) (by omega))]
  | succ m ih =>
    intro f y hy hf
    obtain ⟨f, rfl⟩ : ∃ q, f = q + 1 := ⟨f - 1, by omega⟩
    rw [s_Hall_goesOnAs_86]
    unfold s_Hall_goesOnAs_86_b s_Hall_goesOnAs_122
    rw [if_neg (show ¬ (8 : Int32) ≤ nI y from nI_ge (b := 8) (by omega) (by omega)), if_pos (ib_nI (by omega) (by omega)), if_pos (ib_nI (by omega) (by omega)), nI_clamp (show y < 2 ^ 31 by omega)]
    by_cases q1 : σ.1 (h + 6) y = σ.1 (b + 6) y
    · rw [if_pos q1, if_pos (ib_nI (by omega) (by omega)), if_pos (ib_nI (by omega) (by omega))]
      by_cases q2 : σ.1 (h + 7) y = σ.1 (b + 7) y
      · rw [if_pos q2, nI_1, xl_so]
        obtain ⟨r, r1, r2⟩ := ih f (y + 1) (by omega) (by omega)
        refine ⟨r, r1, r2.imp id (fun z => ⟨z.1, fun i h1 h2 => ?_⟩)⟩
        by_cases e : i = y
        · rw [e]; exact ⟨q1, q2⟩
        · exact z.2 i (by omega) h2
      · rw [if_neg q2]
        exact ⟨0, rfl, Or.inl rfl⟩
    · rw [if_neg q1]
      exact ⟨0, rfl, Or.inl rfl⟩
theorem go_15 : ∀ (m f y : Nat), y + m = 8 → m < f → ∃ r, s_Hall_goesOnAs_15 h b f (nI y) σ = some (r, σ) ∧ (r = 0 ∨ (r = 1 ∧ (∀ i, y ≤ i → i < 8 → σ.1 (h + 1) i = σ.1 (b + 1) i ∧ σ.1 (h + 2) i = σ.1 (b + 2) i ∧ σ.1 (h + 3) i = σ.1 (b + 3) i) ∧ ∀ i, i < 8 → σ.1 (h + 6) i = σ.1 (b + 6) i ∧ σ.1 (h + 7) i = σ.1 (b + 7) i)) := by
  intro m
  induction m with
  | zero =>
    intro f y hy hf
    obtain ⟨f, rfl⟩ : ∃ q, f = q + 1 := ⟨f - 1, by omega⟩
    obtain ⟨r, r1, r2⟩ := go_86 (σ := σ) (h := h) (b := b) 8 FUEL 0 (by omega) (by unfold FUEL; omega)
    rw [nI_0] at r1
    refine ⟨r, ?_, r2.imp id (fun z => ⟨z.1, fun i h1 h2 => absurd h1 (by omega), fun i hi => z.2 i (by omega) hi⟩)⟩
    rw [s_Hall_goesOnAs_15]
    unfold s_Hall_goesOnAs_15_b
    rw [if_pos (show (8 : Int32) ≤ nI y from nI_le (a := 8) (b := y) (by omega) (by omega))]
    exact r1
  | succ m ih =>
    intro f y hy hf
    obtain ⟨f, rfl⟩ : ∃ q, f = q + 1 := ⟨f - 1, by omega⟩
    have no : s_Hall_goesOnAs_70 h b (s_Hall_goesOnAs_15 h b f) (nI y) σ = some (0, σ) := by
      unfold s_Hall_goesOnAs_70 s_Hall_goesOnAs_71
      rw [if_pos rfl]
    have ok : s_Hall_goesOnAs_71 h b (s_Hall_goesOnAs_15 h b f) (nI y) 1 σ = s_Hall_goesOnAs_15 h b f (nI (y + 1)) σ := by
      unfold s_Hall_goesOnAs_71
      rw [if_neg (show ¬ (1 : Int32) = 0 by decide), nI_1, xl_so]
    have i8 : ib (nI y) 8 := ib_nI (by omega) (by omega)
    rw [s_Hall_goesOnAs_15]
    unfold s_Hall_goesOnAs_15_b
    rw [no, ok, if_neg (show ¬ (8 : Int32) ≤ nI y from nI_ge (b := 8) (by omega) (by omega)), if_pos i8, if_pos i8, nI_clamp (show y < 2 ^ 31 by omega)]
    by_cases q1 : σ.1 (h + 1) y = σ.1 (b + 1) y
    · rw [if_pos q1, if_pos i8, if_pos i8]
      by_cases q2 : σ.1 (h + 2) y = σ.1 (b + 2) y
      · rw [if_pos q2, if_pos i8, if_pos i8]
        by_cases q3 : σ.1 (h + 3) y = σ.1 (b + 3) y
        · rw [if_pos q3]
          obtain ⟨r, r1, r2⟩ := ih f (y + 1) (by omega) (by omega)
          refine ⟨r, r1, r2.imp id (fun z => ⟨z.1, fun i h1 h2 => ?_, z.2.2⟩)⟩
          by_cases e : i = y
          · rw [e]; exact ⟨q1, q2, q3⟩
          · exact z.2.1 i (by omega) h2
        · rw [if_neg q3]
          exact ⟨0, rfl, Or.inl rfl⟩
      · rw [if_neg q2]
        exact ⟨0, rfl, Or.inl rfl⟩
    · rw [if_neg q1]
      exact ⟨0, rfl, Or.inl rfl⟩
/-- the same in all that the minutes to come rest on -/
def GOn (σ : LH) (h b : Nat) : Prop := σ.1 h 7 = σ.1 b 7 ∧ (∀ i, i < 8 → σ.1 (h + 1) i = σ.1 (b + 1) i ∧ σ.1 (h + 2) i = σ.1 (b + 2) i ∧ σ.1 (h + 3) i = σ.1 (b + 3) i) ∧ ∀ i, i < 8 → σ.1 (h + 6) i = σ.1 (b + 6) i ∧ σ.1 (h + 7) i = σ.1 (b + 7) i
theorem go_on : ∃ r, s_Hall_goesOnAs h b σ = some (r, σ) ∧ (r = 0 ∨ (r = 1 ∧ GOn σ h b)) := by
  unfold s_Hall_goesOnAs
  by_cases q : σ.1 h 7 = σ.1 b 7
  · rw [if_pos q]
    obtain ⟨r, r1, r2⟩ := go_15 (σ := σ) (h := h) (b := b) 8 FUEL 0 (by omega) (by unfold FUEL; omega)
    rw [nI_0] at r1
    exact ⟨r, r1, r2.imp id (fun z => ⟨z.1, q, fun i hi => z.2.1 i (by omega) hi, z.2.2⟩)⟩
  · rw [if_neg q]
    exact ⟨0, rfl, Or.inl rfl⟩
end
section
variable {σ : LH} {S P n n1 mm mm' M M' : Nat} {w w' : Wd} {A A' : Nat → Int32}
/-- worlds that stand for blocks that go on alike -/
theorem HR.je (h : HR σ S P n mm M w A) (h' : HR σ S P n1 mm' M' w' A') (hS8 : S ≤ 8) (hP8 : P ≤ 8) (e0 : w 0 7 = w' 0 7) (e1 : ∀ i, i < 8 → w 1 i = w' 1 i ∧ w 2 i = w' 2 i ∧ w 3 i = w' 3 i) (e2 : ∀ i, i < 8 → w 6 i = w' 6 i ∧ w 7 i = w' 7 i) : JE S P A A' := by
  obtain ⟨c1, c2, c3, c4, c5, c6, c7, c8⟩ := h.1
  obtain ⟨d1, d2, d3, d4, d5, d6, d7, d8⟩ := h'.1
  intro j hj
  unfold JK at hj
  rcases hj with ⟨z1, z2⟩ | ⟨z1, z2⟩ | z
  · obtain ⟨p, hp⟩ : ∃ p, p = j / 4 := ⟨_, rfl⟩
    have hpP : p < P := by omega
    rcases (show j = 4 * p ∨ j = 4 * p + 1 ∨ j = 4 * p + 2 by omega) with y | y | y
    · rw [y, ← c1 p hpP, ← d1 p hpP]; exact (e1 p (by omega)).1.symm
    · rw [y, ← c2 p hpP, ← d2 p hpP]; exact (e1 p (by omega)).2.1.symm
    · rw [y, ← c3 p hpP, ← d3 p hpP]; exact (e1 p (by omega)).2.2.symm
  · obtain ⟨s, hs⟩ : ∃ s, s = (j - 32) / 2 := ⟨_, rfl⟩
    have hsS : s < S := by omega
    rcases (show j = 32 + 2 * s ∨ j = 32 + 2 * s + 1 by omega) with y | y
    · rw [y, ← c6 s hsS, ← d6 s hsS]; exact (e2 s (by omega)).1.symm
    · rw [y, ← c7 s hsS, ← d7 s hsS]; exact (e2 s (by omega)).2.symm
  · rw [z, ← c8, ← d8]; exact e0.symm
end
