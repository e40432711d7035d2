/-! been: what holds of the sets asked for, between calls -/
/-- what was found fits, for the hall asked, under any likings and numbers that the cells tell -/
def ASK (σ τ : LH) : Prop := ∃ S P n0 n E mm M T A0, (σ.1 4 0 = nI S ∧ S ≤ 8) ∧ (σ.1 4 1 = nI P ∧ P ≤ 8) ∧ (σ.1 4 2 = nI n0 ∧ n0 ≤ 10) ∧ (σ.1 4 15 = nI E ∧ E < 100) ∧ (σ.1 81 10 = nI T ∧ T ≤ 8) ∧ (HR σ S P n mm M (gH σ 87) A0 ∧ mm < 100) ∧ ∀ (L : Nat → Nat → Nat → Int32) (ln : Nat → Nat → Nat → Nat) (go who lv : Nat → Nat) (whr : Nat → Int32), (∀ g, g < n0 → σ.1 12 g = nI (go g) ∧ go g < P) → (∀ g, g < n0 → σ.1 13 g = nI (lv g) ∧ lv g < 100) → (∀ i, i < T → who i < P ∧ σ.1 83 i = nI (who i) ∧ σ.1 84 i = whr i) → (∀ m, m < E + 1 → ∃ r, r < 100 ∧ σ.1 35 m = nI r ∧ ∀ p s, p < P → s < S → tbC σ r p s = L m p s) → (∀ m, m < 100 → LKr (L m) (ln m) S P) → FITc L τ S P n0 E mm T go who lv whr A0 (σ.1 86)
def Vb (σ τ : LH) : Prop := σ.1 81 15 = -1 ∨ ∃ a n, σ.1 81 15 = nI a ∧ σ.1 33 5 = nI n ∧ a ≤ n ∧ n < 2 ^ 20 ∧ (a = n → ∃ b T, σ.1 81 16 = nI b ∧ σ.1 81 10 = nI T ∧ b ≤ T ∧ T ≤ 8 ∧ (b = T → ASK σ τ))
section
variable {σ τ σ' τ' : LH}
theorem ASK.fr (h : ASK σ τ) (ha : ∀ b, b = 4 ∨ b = 5 ∨ b = 7 ∨ b = 9 ∨ b = 10 ∨ b = 12 ∨ b = 13 ∨ b = 34 ∨ b = 35 ∨ b = 83 ∨ b = 84 ∨ (86 ≤ b ∧ b < 96) → σ'.1 b = σ.1 b) (h10 : σ'.1 81 10 = σ.1 81 10) (ht : ∀ b, b = 575 ∨ b = 577 ∨ b = 579 → τ'.1 b = τ.1 b) : ASK σ' τ' := by
  obtain ⟨S, P, n0, n, E, mm, M, T, A0, h1, h2, h3, h4, h5, ⟨h6, h6m⟩, h7⟩ := h
  have eg : ∀ c, c < 9 → gH σ' 87 c = gH σ 87 c := fun c hc => ha (87 + c) (by omega)
  have we : WE (gH σ 87) (gH σ' 87) := ⟨fun c _ _ j _ => by rw [eg c (by omega)], by rw [eg 0 (by omega)], by rw [eg 0 (by omega)], by rw [eg 0 (by omega)]⟩
  refine ⟨S, P, n0, n, E, mm, M, T, A0, ?_, ?_, ?_, ?_, by rw [h10]; exact h5, ⟨(h6.s (fun b hb => ha b (by omega))).cp we h1.2 h2.2 (fun _ _ => rfl), h6m⟩, fun L ln go who lv whr q1 q2 q3 q4 q5 => ?_⟩
  · rw [ha 4 (by omega)]; exact h1
  · rw [ha 4 (by omega)]; exact h2
  · rw [ha 4 (by omega)]; exact h3
  · rw [ha 4 (by omega)]; exact h4
  · rw [ha 12 (by omega)] at q1
    rw [ha 13 (by omega)] at q2
    rw [ha 83 (by omega), ha 84 (by omega)] at q3
    have q4' : ∀ m, m < E + 1 → ∃ r, r < 100 ∧ σ.1 35 m = nI r ∧ ∀ p s, p < P → s < S → tbC σ r p s = L m p s := fun m hm => by
      obtain ⟨r, r1, r2, r3⟩ := q4 m hm
      rw [ha 35 (by omega)] at r2
      refine ⟨r, r1, r2, fun p s hp hs => ?_⟩
      have := r3 p s hp hs
      show σ.1 34 (r * 64 + p * 8 + s) = _
      rw [← ha 34 (by omega)]
      exact this
    have F := h7 L ln go who lv whr q1 q2 q3 q4' q5
    rw [ha 86 (by omega)]
    intro s hs
    obtain ⟨f1, f2⟩ := F s hs
    refine ⟨fun z => ?_, f2⟩
    obtain ⟨b, b1, b2⟩ := f1 z
    refine ⟨b, fun τ2 v g1 g2 => b1 τ2 v ⟨g1.1.trans (ht 575 (by omega)), g1.2.1.trans (ht 577 (by omega)), g1.2.2.trans (ht 579 (by omega))⟩ g2, b2⟩
theorem Vb_fr (h : Vb σ τ) (ha : ∀ b, b = 4 ∨ b = 5 ∨ b = 7 ∨ b = 9 ∨ b = 10 ∨ b = 12 ∨ b = 13 ∨ b = 34 ∨ b = 35 ∨ b = 83 ∨ b = 84 ∨ (86 ≤ b ∧ b < 96) → σ'.1 b = σ.1 b) (h33 : σ'.1 33 5 = σ.1 33 5) (h81 : ∀ j, j = 10 ∨ j = 15 ∨ j = 16 → σ'.1 81 j = σ.1 81 j) (ht : ∀ b, b = 575 ∨ b = 577 ∨ b = 579 → τ'.1 b = τ.1 b) : Vb σ' τ' := by
  rcases h with h | ⟨a, n, a1, a2, a3, a4, a5⟩
  · exact Or.inl (by rw [h81 15 (by omega)]; exact h)
  · refine Or.inr ⟨a, n, by rw [h81 15 (by omega)]; exact a1, by rw [h33]; exact a2, a3, a4, fun z => ?_⟩
    obtain ⟨b, T, b1, b2, b3, b4, b5⟩ := a5 z
    exact ⟨b, T, by rw [h81 16 (by omega)]; exact b1, by rw [h81 10 (by omega)]; exact b2, b3, b4, fun y => (b5 y).fr ha (h81 10 (by omega)) ht⟩
theorem Vb_cl : Vcl Vb := by
  intro σ σ' τ τ' h hσ hτ
  refine Vb_fr h (fun b hb => funext fun j => hσ b j ?_) (hσ 33 5 ?_) (fun j hj => hσ 81 j ?_) (fun b hb => funext fun j => hτ b j ?_)
  · unfold vC nwC scC; omega
  · unfold vC nwC scC; omega
  · unfold vC nwC scC; omega
  · unfold vM nwM scM wX; omega
theorem Vb_ren : Vren Vb := by
  intro σ σ' τ τ' n h h1 h2 h3 h4
  rcases h with h | ⟨a, n', a1, a2, a3, a4, a5⟩
  · exact Or.inl (h4.trans h)
  · rw [h1] at a2
    have e : n = n' := nI_ij (by omega) (by omega) a2
    exact Or.inr ⟨a, n + 1, h4.trans a1, h3, by omega, h2, fun z => by omega⟩
theorem Vb_tel : Vtel Vb := by
  intro σ σ' τ τ' t h h1 h2 h3 h4 h5 h6 h7
  rcases h with h | ⟨a, n, a1, a2, a3, a4, a5⟩
  · exact Or.inl ((h5 15 (by omega)).trans h)
  · refine Or.inr ⟨a, n, (h5 15 (by omega)).trans a1, by rw [h4 33 (by omega) (by omega) (by omega)]; exact a2, a3, a4, fun z => ?_⟩
    obtain ⟨b, T, b1, b2, b3, b4, b5⟩ := a5 z
    rw [h1] at b2
    have e : t = T := nI_ij (by omega) (by omega) b2
    exact ⟨b, t + 1, (h5 16 (by omega)).trans b1, h3, by omega, by omega, fun y => by omega⟩
theorem Vb_start (h : σ.1 81 15 = -1) : Vb σ τ := Or.inl h
end
