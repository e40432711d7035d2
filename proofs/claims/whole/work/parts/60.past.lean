/-! both: the past -/
theorem pickC_s {σ σ' : LH} {S P r : Nat} {w : Wd} (h : ∀ b, b = 5 ∨ b = 7 ∨ b = 9 ∨ b = 10 ∨ b = 34 → σ'.1 b = σ.1 b) : pickC σ' S P r w = pickC σ S P r w := by
  show mvR (fun s => tkR (fun p s => σ'.1 34 (r * 64 + p * 8 + s)) (σ'.1 9) (σ'.1 10) (σ'.1 7) s w P 0 none 0) (σ'.1 5) w S 0 none none = _
  rw [h 5 (by omega), h 7 (by omega), h 9 (by omega), h 10 (by omega), h 34 (by omega)]
theorem HR.s {σ σ' : LH} {S P n mm M : Nat} {w : Wd} {A : Nat → Int32} (h : HR σ S P n mm M w A) (e : ∀ b, b = 5 ∨ b = 7 ∨ b = 9 ∨ b = 10 ∨ b = 34 → σ'.1 b = σ.1 b) : HR σ' S P n mm M w A := by
  obtain ⟨h1, h2, h3, h4⟩ := h
  refine ⟨h1, h2, ?_, h4⟩
  rcases h3 with z | ⟨n', r', z1, z2, z3, z4⟩
  · exact Or.inl z
  · exact Or.inr ⟨n', r', z1, z2, z3, fun q => by rw [pickC_s e]; exact z4 q⟩
/-- a hall in a block, with its log -/
def HL (σ : LH) (S P n eN : Nat) (w : Wd) (A : Nat → Int32) : Prop := ∃ mm M, mm < eN ∧ M ≤ 1000 * mm ∧ HR σ S P n mm M w A ∧ Lg w A M
theorem HL.cp {σ σ' : LH} {S P n eN : Nat} {w w' : Wd} {A B : Nat → Int32} (h : HL σ S P n eN w A) (hS8 : S ≤ 8) (hP8 : P ≤ 8) (e : ∀ b, b = 5 ∨ b = 7 ∨ b = 9 ∨ b = 10 ∨ b = 34 → σ'.1 b = σ.1 b) (we : WE w w') (w8 : ∀ i, i < 240 → w' 8 i = w 8 i) (hB : ∀ j, j < 290 → B j = A j) : HL σ' S P n eN w' B := by
  obtain ⟨mm, M, h1, h2, h3, h4⟩ := h
  exact ⟨mm, M, h1, h2, (h3.s e).cp we hS8 hP8 (fun j hj => hB j (by omega)), h4.cp we.2.2.1 w8 (fun j _ hj => hB j (by omega))⟩
theorem WE.rf {w : Wd} : WE w w := ⟨fun _ _ _ _ _ => rfl, rfl, rfl, rfl⟩
def PR (σ τ : LH) (S P n eN k N : Nat) : Prop := σ.1 1 13 = nI k ∧ σ.1 1 14 = nI N ∧ τ.1 570 46 = nI k ∧ k ≤ 40 ∧ N < 40 ∧ ∀ i, i < k → HL σ S P n eN (gH σ (210 + 9 * ((N + 40 - i) % 40))) (fun j => τ.1 590 (290 * (k - 1 - i) + j))
theorem PR.remember {σ τ : LH} {S P n eN k N : Nat} (h : PR σ τ S P n eN k N) (hS8 : S ≤ 8) (hP8 : P ≤ 8) (hH : HL σ S P n eN (gH σ 39) (τ.1 583)) : ∃ σ' τ', s_Main_remember σ = some σ' ∧ s_Model_remember τ = some τ' ∧ PR σ' τ' S P n eN (min (k + 1) 40) ((N + 1) % 40) ∧ (∀ b, b ≠ 1 → b < 210 ∨ 570 ≤ b → σ'.1 b = σ.1 b) ∧ (∀ j, j ≠ 13 → j ≠ 14 → σ'.1 1 j = σ.1 1 j) ∧ σ'.2 = σ.2 ∧ (∀ b, b ≠ 570 → b ≠ 590 → τ'.1 b = τ.1 b) ∧ (∀ j, j ≠ 46 → τ'.1 570 j = τ.1 570 j) ∧ τ'.2 = τ.2 := by
  obtain ⟨p1, p2, p3, p4, p5, p6⟩ := h
  obtain ⟨σ', a1, a2, a3, a4, a5, a6, a7, a8⟩ := e_remember p1 p4 p2 p5
  obtain ⟨τ', b1, b2, b3, b4, b5, b6⟩ := m_remember p3 p4
  have hq : (N + 1) % 40 < 40 := Nat.mod_lt _ (by omega)
  have lo : ∀ b, b = 5 ∨ b = 7 ∨ b = 9 ∨ b = 10 ∨ b = 34 → σ'.1 b = σ.1 b := fun b hb => a4 b (by omega) (by omega)
  refine ⟨σ', τ', a1, b1, ⟨a2, a3, b2, by omega, hq, fun i hi => ?_⟩, fun b h1 h2 => a4 b h1 (by omega), a5, a8, b4, b5, b6⟩
  by_cases q : i = 0
  · subst q
    rw [show ((N + 1) % 40 + 40 - 0) % 40 = (N + 1) % 40 by omega]
    refine hH.cp hS8 hP8 lo a6 a7 (fun j hj => ?_)
    show τ'.1 590 (290 * (min (k + 1) 40 - 1 - 0) + j) = τ.1 583 j
    rw [b3]
    unfold pst rwS
    by_cases q2 : k = 40
    · rw [if_pos q2, if_pos (by omega)]
      exact congrArg (τ.1 583) (by omega)
    · rw [if_neg q2, if_pos (by omega)]
      exact congrArg (τ.1 583) (by omega)
  · have old := p6 (i - 1) (by omega)
    have ei : (N + 40 - (i - 1)) % 40 = ((N + 1) % 40 + 40 - i) % 40 := by omega
    have ne : ((N + 1) % 40 + 40 - i) % 40 ≠ (N + 1) % 40 := by omega
    rw [ei] at old
    have hlt : ((N + 1) % 40 + 40 - i) % 40 < 40 := Nat.mod_lt _ (by omega)
    generalize ((N + 1) % 40 + 40 - i) % 40 = x at old ne hlt ⊢
    have eg : gH σ' (210 + 9 * x) = gH σ (210 + 9 * x) ∨ True := Or.inr trivial
    have eg : ∀ c, c < 9 → gH σ' (210 + 9 * x) c = gH σ (210 + 9 * x) c := fun c hc => a4 (210 + 9 * x + c) (by omega) (by omega)
    refine old.cp hS8 hP8 lo ⟨fun c _ _ j _ => by rw [eg c (by omega)], by rw [eg 0 (by omega)], by rw [eg 0 (by omega)], by rw [eg 0 (by omega)]⟩ (fun j _ => by rw [eg 8 (by omega)]) (fun j hj => ?_)
    show τ'.1 590 (290 * (min (k + 1) 40 - 1 - i) + j) = τ.1 590 (290 * (k - 1 - (i - 1)) + j)
    rw [b3]
    unfold pst rwS shS
    by_cases q2 : k = 40
    · rw [if_pos q2, if_neg (by omega), if_pos (by omega)]
      exact congrArg (τ.1 590) (by omega)
    · rw [if_neg q2, if_neg (by omega)]
      exact congrArg (τ.1 590) (by omega)
