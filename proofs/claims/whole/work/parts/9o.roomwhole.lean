/-! the model reads a room: whether it is whole; all of it -/
def RB (R : RM) : Prop := ∀ k, k < 4 → ∀ r, (r < R.1 k ∨ (k = 3 ∧ r = 0)) → BI k (R.2 k r)
theorem RB.z : RB rmZ := by
  intro k hk r hr i hi
  have : r < 0 ∨ (k = 3 ∧ r = 0) := hr
  have hk3 : k = 3 := by omega
  subst hk3
  exact usuR_bd 3 hk i hi
theorem RB.add {R : RM} {k : Nat} {it : Nat → Nat} (h : RB R) (hk : k < 4) (hi : BI k it) (h3 : k = 3 → R.1 3 = 0) : RB (addR R k it) := by
  intro j hj r hr
  unfold addR at hr ⊢
  simp only at hr ⊢
  by_cases z : j = k
  · by_cases y : r = R.1 k
    · have e : (fun i => if j = k ∧ r = R.1 k then it i else R.2 j r i) = it := funext fun i => if_pos ⟨z, y⟩
      rw [e, z]
      exact hi
    · have e : (fun i => if j = k ∧ r = R.1 k then it i else R.2 j r i) = R.2 j r := funext fun i => if_neg (fun x => y x.2)
      rw [e]
      rw [if_pos z] at hr
      refine h j hj r ?_
      rcases hr with x | ⟨x1, x2⟩
      · exact Or.inl (by rw [z]; omega)
      · exact Or.inr ⟨x1, x2⟩
  · have e : (fun i => if j = k ∧ r = R.1 k then it i else R.2 j r i) = R.2 j r := funext fun i => if_neg (fun x => z x.1)
    rw [e]
    rw [if_neg z] at hr
    exact h j hj r hr
/-- the sitter's wish can be met -/
def okR (R : RM) (p : Nat) : Prop := R.2 1 p 0 = 8 ∨ (R.2 1 p 0 < R.1 0 ∧ ∀ q, q < p → R.2 1 q 0 ≠ R.2 1 p 0)
theorem whR_iff {R : RM} : whR R = true ↔ (1 ≤ R.1 0 ∧ 1 ≤ R.1 1 ∧ (∀ p, p < R.1 1 → okR R p) ∧ ∀ g, g < R.1 2 → R.2 2 g 0 < R.1 1) := by
  unfold whR okR
  exact decide_eq_true_iff
def b01 (y : Int32) : Prop := y = 0 ∨ y = 1
section
variable {τ : LH} {R : RM}
theorem MRm.b (hR : MRm τ R) {p : Nat} (hp : p < R.1 1) : τ.1 578 (4 * p) = nI (R.2 1 p 0) := (hR 1 (by omega)).2.2 p 0 (Or.inl hp) (show 0 < 4 by omega)
theorem RB.b (hB : RB R) {p : Nat} (hp : p < R.1 1) : R.2 1 p 0 ≤ 8 := (hB 1 (by omega) p (Or.inl hp) 0 (show 0 < 4 by omega)).2
theorem mw66 (hR : MRm τ R) (hB : RB R) {rec22 : Int32 → Int32 → LH → Option (Int32 × LH)} {p : Nat} (hp : p < R.1 1) : ∀ (m n q : Nat) (y1 : Int32), q + m = p → m < n → b01 y1 → ∃ y, b01 y ∧ (y = 1 ↔ (y1 = 1 ∧ (R.2 1 p 0 = 8 ∨ ∀ q', q ≤ q' → q' < p → R.2 1 q' 0 ≠ R.2 1 p 0))) ∧ s_Model_isWhole_66 rec22 n y1 (nI p) (nI (R.2 1 p 0)) (nI q) τ = rec22 y (nI (p + 1)) τ := by
  have hP : R.1 1 ≤ 8 := (hR 1 (by omega)).2.1
  have hb := hB.b hp
  intro m
  induction m with
  | zero =>
    intro n q y1 hq hn hy
    obtain ⟨n, rfl⟩ : ∃ k, n = k + 1 := ⟨n - 1, by omega⟩
    refine ⟨y1, hy, ⟨fun z => ⟨z, Or.inr fun q' h1 h2 => by omega⟩, fun z => z.1⟩, ?_⟩
    rw [s_Model_isWhole_66]
    unfold s_Model_isWhole_66_b
    rw [if_pos (nI_le (by omega) (by omega))]
    simp only [xl]
    rw [nI_1]
  | succ m ih =>
    intro n q y1 hq hn hy
    obtain ⟨n, rfl⟩ : ∃ k, n = k + 1 := ⟨n - 1, by omega⟩
    rw [s_Model_isWhole_66]
    unfold s_Model_isWhole_66_b s_Model_isWhole_99 s_Model_isWhole_95 s_Model_isWhole_100
    rw [if_neg (nI_ge (by omega) (by omega))]
    simp only [xl]
    rw [nI_1]
    rcases hy with rfl | rfl
    · rw [if_pos rfl]
      obtain ⟨y, y1, y2, y3⟩ := ih n (q + 1) 0 (by omega) (by omega) (Or.inl rfl)
      exact ⟨y, y1, ⟨fun z => absurd (y2.mp z).1 (by decide), fun z => absurd z.1 (by decide)⟩, y3⟩
    · rw [if_neg (show ¬ (1 : Int32) = 0 by decide)]
      by_cases q8 : R.2 1 p 0 = 8
      · rw [if_pos (show nI (R.2 1 p 0) = 8 by rw [q8]; rfl)]
        obtain ⟨y, y1, y2, y3⟩ := ih n (q + 1) 1 (by omega) (by omega) (Or.inr rfl)
        exact ⟨y, y1, ⟨fun _ => ⟨rfl, Or.inl q8⟩, fun _ => y2.mpr ⟨rfl, Or.inl q8⟩⟩, y3⟩
      · rw [if_neg (show ¬ nI (R.2 1 p 0) = 8 from fun z => q8 (nI_ij (b := 8) (by omega) (by omega) z)), c4, if_pos (ib_nI (by omega) (by omega)), nI_clamp (show 4 * q < 2 ^ 31 by omega), hR.b (show q < R.1 1 by omega)]
        by_cases qe : R.2 1 q 0 = R.2 1 p 0
        · rw [if_pos (by rw [qe])]
          obtain ⟨y, y1, y2, y3⟩ := ih n (q + 1) 0 (by omega) (by omega) (Or.inl rfl)
          refine ⟨y, y1, ⟨fun z => absurd (y2.mp z).1 (by decide), fun z => ?_⟩, y3⟩
          rcases z.2 with x | x
          · exact absurd x q8
          · exact absurd qe (x q (Nat.le_refl q) (by omega))
        · rw [if_neg (fun z => qe (nI_ij (by have := hB.b (show q < R.1 1 by omega); omega) (by omega) z))]
          obtain ⟨y, y1, y2, y3⟩ := ih n (q + 1) 1 (by omega) (by omega) (Or.inr rfl)
          refine ⟨y, y1, ⟨fun z => ⟨rfl, ?_⟩, fun z => y2.mpr ⟨rfl, ?_⟩⟩, y3⟩
          · rcases (y2.mp z).2 with x | x
            · exact Or.inl x
            · refine Or.inr fun q' h1 h2 => ?_
              by_cases w : q' = q
              · rw [w]; exact qe
              · exact x q' (by omega) h2
          · rcases z.2 with x | x
            · exact Or.inl x
            · exact Or.inr fun q' h1 h2 => x q' (by omega) h2
theorem mw22 (hR : MRm τ R) (hB : RB R) : ∀ (m n p : Nat) (y1 : Int32), p + m = R.1 1 → m < n → b01 y1 → ∃ y, b01 y ∧ (y = 1 ↔ (y1 = 1 ∧ ∀ p', p ≤ p' → p' < R.1 1 → okR R p')) ∧ s_Model_isWhole_22 n y1 (nI p) τ = s_Model_isWhole_115 FUEL y 0 τ := by
  have hP : R.1 1 ≤ 8 := (hR 1 (by omega)).2.1
  have hS : R.1 0 ≤ 8 := (hR 0 (by omega)).2.1
  have v30 : τ.1 570 30 = nI (R.1 1) := (hR 1 (by omega)).1
  have v29 : τ.1 570 29 = nI (R.1 0) := (hR 0 (by omega)).1
  intro m
  induction m with
  | zero =>
    intro n p y1 hp hn hy
    obtain ⟨n, rfl⟩ : ∃ k, n = k + 1 := ⟨n - 1, by omega⟩
    refine ⟨y1, hy, ⟨fun z => ⟨z, fun p' h1 h2 => by omega⟩, fun z => z.1⟩, ?_⟩
    rw [s_Model_isWhole_22]
    unfold s_Model_isWhole_22_b
    rw [v30, if_pos (nI_le (by omega) (by omega))]
  | succ m ih =>
    intro n p y1 hp hn hy
    obtain ⟨n, rfl⟩ : ∃ k, n = k + 1 := ⟨n - 1, by omega⟩
    have hb := hB.b (show p < R.1 1 by omega)
    -- what the inner loop gives
    have inn : ∀ z : Int32, b01 z → ∃ y, b01 y ∧ (y = 1 ↔ (z = 1 ∧ (R.2 1 p 0 = 8 ∨ ∀ q', q' < p → R.2 1 q' 0 ≠ R.2 1 p 0) ∧ ∀ p', p + 1 ≤ p' → p' < R.1 1 → okR R p')) ∧ s_Model_isWhole_62 (s_Model_isWhole_22 n) (nI p) (nI (R.2 1 p 0)) z τ = s_Model_isWhole_115 FUEL y 0 τ := by
      intro z hz
      obtain ⟨y, y1, y2, y3⟩ := mw66 (rec22 := s_Model_isWhole_22 n) hR hB (show p < R.1 1 by omega) p FUEL 0 z (by omega) (by unfold FUEL; omega) hz
      obtain ⟨w, w1, w2, w3⟩ := ih n (p + 1) y (by omega) (by omega) y1
      refine ⟨w, w1, ?_, ?_⟩
      · rw [w2, y2]
        constructor
        · intro h
          exact ⟨h.1.1, h.1.2.elim Or.inl (fun x => Or.inr fun q' h2 => x q' (by omega) h2), h.2⟩
        · intro h
          exact ⟨⟨h.1, h.2.1.elim Or.inl (fun x => Or.inr fun q' _ h2 => x q' h2)⟩, h.2.2⟩
      · unfold s_Model_isWhole_62
        rw [← nI_0, y3, w3]
        rfl
    rw [s_Model_isWhole_22]
    unfold s_Model_isWhole_22_b s_Model_isWhole_61 s_Model_isWhole_57
    rw [v30, if_neg (nI_ge (by omega) (by omega)), c4, if_pos (ib_nI (by omega) (by omega)), nI_clamp (show 4 * p < 2 ^ 31 by omega), hR.b (show p < R.1 1 by omega)]
    simp only [xl]
    rw [v29]
    have split : ∀ Q : Prop, (∀ p', p ≤ p' → p' < R.1 1 → okR R p') ↔ (okR R p ∧ ∀ p', p + 1 ≤ p' → p' < R.1 1 → okR R p') := fun _ => ⟨fun h => ⟨h p (by omega) (by omega), fun p' h1 h2 => h p' (by omega) h2⟩, fun h p' h1 h2 => by
      by_cases x : p' = p
      · rw [x]; exact h.1
      · exact h.2 p' (by omega) h2⟩
    rw [split True]
    rcases hy with rfl | rfl
    · rw [if_pos rfl]
      obtain ⟨y, y1, y2, y3⟩ := inn 0 (Or.inl rfl)
      exact ⟨y, y1, ⟨fun z => absurd (y2.mp z).1 (by decide), fun z => absurd z.1 (by decide)⟩, y3⟩
    · rw [if_neg (show ¬ (1 : Int32) = 0 by decide)]
      by_cases q8 : R.2 1 p 0 = 8
      · rw [if_pos (show nI (R.2 1 p 0) = 8 by rw [q8]; rfl)]
        obtain ⟨y, y1, y2, y3⟩ := inn 1 (Or.inr rfl)
        exact ⟨y, y1, ⟨fun z => ⟨rfl, Or.inl q8, (y2.mp z).2.2⟩, fun z => y2.mpr ⟨rfl, Or.inl q8, z.2.2⟩⟩, y3⟩
      · rw [if_neg (show ¬ nI (R.2 1 p 0) = 8 from fun z => q8 (nI_ij (b := 8) (by omega) (by omega) z))]
        by_cases qS : R.1 0 ≤ R.2 1 p 0
        · rw [if_pos (nI_le qS (by omega))]
          obtain ⟨y, y1, y2, y3⟩ := inn 0 (Or.inl rfl)
          refine ⟨y, y1, ⟨fun z => absurd (y2.mp z).1 (by decide), fun z => ?_⟩, y3⟩
          rcases z.2.1 with x | x
          · exact absurd x q8
          · have := x.1; omega
        · rw [if_neg (nI_ge (by omega) (by omega))]
          obtain ⟨y, y1, y2, y3⟩ := inn 1 (Or.inr rfl)
          refine ⟨y, y1, ⟨fun z => ⟨rfl, Or.inr ⟨by omega, ?_⟩, (y2.mp z).2.2⟩, fun z => y2.mpr ⟨rfl, Or.inr ?_, z.2.2⟩⟩, y3⟩
          · rcases (y2.mp z).2.1 with x | x
            · exact absurd x q8
            · exact x
          · rcases z.2.1 with x | x
            · exact absurd x q8
            · exact x.2
theorem mw115 (hR : MRm τ R) (hB : RB R) : ∀ (m n g : Nat) (y1 : Int32), g + m = R.1 2 → m < n → b01 y1 → ∃ y, b01 y ∧ (y = 1 ↔ (y1 = 1 ∧ ∀ g', g ≤ g' → g' < R.1 2 → R.2 2 g' 0 < R.1 1)) ∧ s_Model_isWhole_115 n y1 (nI g) τ = some (y, τ) := by
  have hP : R.1 1 ≤ 8 := (hR 1 (by omega)).2.1
  have hG : R.1 2 ≤ 10 := (hR 2 (by omega)).2.1
  have v30 : τ.1 570 30 = nI (R.1 1) := (hR 1 (by omega)).1
  have v31 : τ.1 570 31 = nI (R.1 2) := (hR 2 (by omega)).1
  intro m
  induction m with
  | zero =>
    intro n g y1 hg hn hy
    obtain ⟨n, rfl⟩ : ∃ k, n = k + 1 := ⟨n - 1, by omega⟩
    refine ⟨y1, hy, ⟨fun z => ⟨z, fun p' h1 h2 => by omega⟩, fun z => z.1⟩, ?_⟩
    rw [s_Model_isWhole_115]
    unfold s_Model_isWhole_115_b
    rw [v31, if_pos (nI_le (by omega) (by omega)), if_pos (show zb y1 from hy)]
  | succ m ih =>
    intro n g y1 hg hn hy
    obtain ⟨n, rfl⟩ : ∃ k, n = k + 1 := ⟨n - 1, by omega⟩
    have hv : τ.1 580 (3 * g) = nI (R.2 2 g 0) := (hR 2 (by omega)).2.2 g 0 (Or.inl (by omega)) (show 0 < 3 by omega)
    have hb : R.2 2 g 0 ≤ 7 := (hB 2 (by omega) g (Or.inl (by omega)) 0 (show 0 < 3 by omega)).2
    rw [s_Model_isWhole_115]
    unfold s_Model_isWhole_115_b s_Model_isWhole_146 s_Model_isWhole_147
    rw [v31, if_neg (nI_ge (by omega) (by omega))]
    simp only [xl]
    rw [nI_1]
    rcases hy with rfl | rfl
    · rw [if_pos rfl]
      obtain ⟨y, y1, y2, y3⟩ := ih n (g + 1) 0 (by omega) (by omega) (Or.inl rfl)
      exact ⟨y, y1, ⟨fun z => absurd (y2.mp z).1 (by decide), fun z => absurd z.1 (by decide)⟩, y3⟩
    · rw [if_neg (show ¬ (1 : Int32) = 0 by decide), c3, if_pos (ib_nI (by omega) (by omega)), nI_clamp (show 3 * g < 2 ^ 31 by omega), hv, v30]
      by_cases q : R.1 1 ≤ R.2 2 g 0
      · rw [if_pos (nI_le q (by omega))]
        obtain ⟨y, y1, y2, y3⟩ := ih n (g + 1) 0 (by omega) (by omega) (Or.inl rfl)
        exact ⟨y, y1, ⟨fun z => absurd (y2.mp z).1 (by decide), fun z => by have := z.2 g (by omega) (by omega); omega⟩, y3⟩
      · rw [if_neg (nI_ge (by omega) (by omega))]
        obtain ⟨y, y1, y2, y3⟩ := ih n (g + 1) 1 (by omega) (by omega) (Or.inr rfl)
        refine ⟨y, y1, ⟨fun z => ⟨rfl, fun g' h1 h2 => ?_⟩, fun z => y2.mpr ⟨rfl, fun g' h1 h2 => z.2 g' (by omega) h2⟩⟩, y3⟩
        by_cases x : g' = g
        · rw [x]; omega
        · exact (y2.mp z).2 g' (by omega) h2
theorem m_whole (hR : MRm τ R) (hB : RB R) : s_Model_isWhole τ = some (if whR R = true then 1 else 0, τ) := by
  have hP : R.1 1 ≤ 8 := (hR 1 (by omega)).2.1
  have hS : R.1 0 ≤ 8 := (hR 0 (by omega)).2.1
  have hG : R.1 2 ≤ 10 := (hR 2 (by omega)).2.1
  have v30 : τ.1 570 30 = nI (R.1 1) := (hR 1 (by omega)).1
  have v29 : τ.1 570 29 = nI (R.1 0) := (hR 0 (by omega)).1
  have go : ∀ z : Int32, b01 z → (z = 1 ↔ (1 ≤ R.1 0 ∧ 1 ≤ R.1 1)) → s_Model_isWhole_19 z τ = some (if whR R = true then 1 else 0, τ) := by
    intro z hz hz2
    obtain ⟨y, y1, y2, y3⟩ := mw22 hR hB (R.1 1) FUEL 0 z (by omega) (by unfold FUEL; omega) hz
    obtain ⟨w, w1, w2, w3⟩ := mw115 hR hB (R.1 2) FUEL 0 y (by omega) (by unfold FUEL; omega) y1
    unfold s_Model_isWhole_19
    rw [nI_0] at y3 w3
    rw [y3, w3]
    have e : w = 1 ↔ whR R = true := by
      rw [whR_iff, w2, y2, hz2]
      constructor
      · intro h
        exact ⟨h.1.1.1, h.1.1.2, fun p hp => h.1.2 p (by omega) hp, fun g hg => h.2 g (by omega) hg⟩
      · intro h
        exact ⟨⟨⟨h.1, h.2.1⟩, fun p _ hp => h.2.2.1 p hp⟩, fun g _ hg => h.2.2.2 g hg⟩
    by_cases q : whR R = true
    · rw [if_pos q, e.mpr q]
    · rw [if_neg q]
      rcases w1 with x | x
      · rw [x]
      · exact absurd (e.mp x) q
  unfold s_Model_isWhole s_Model_isWhole_18
  rw [v29, v30]
  by_cases q1 : R.1 0 = 0
  · rw [if_pos (show nI (R.1 0) ≤ 0 by rw [q1]; decide)]
    exact go 0 (Or.inl rfl) ⟨fun z => absurd z (by decide), fun z => by omega⟩
  · rw [if_neg (show ¬ nI (R.1 0) ≤ 0 from nI_ge (a := 0) (b := R.1 0) (by omega) (by omega))]
    by_cases q2 : R.1 1 = 0
    · rw [if_pos (show nI (R.1 1) ≤ 0 by rw [q2]; decide)]
      exact go 0 (Or.inl rfl) ⟨fun z => absurd z (by decide), fun z => by omega⟩
    · rw [if_neg (show ¬ nI (R.1 1) ≤ 0 from nI_ge (a := 0) (b := R.1 1) (by omega) (by omega))]
      exact go 1 (Or.inr rfl) ⟨fun _ => ⟨by omega, by omega⟩, fun _ => rfl⟩
end
