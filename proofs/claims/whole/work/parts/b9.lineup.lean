/-! been: sets as numbers; who is still to go, by their minutes -/
def bitsT : Bool := (List.range 1024).all fun s => (List.range 10).all fun g => (decide (((nI s >>> (nI g &&& 31)) &&& 1) = 1) == s.testBit g) && decide ((nI s ||| (1 <<< (nI g &&& 31))) = nI (s ||| 2 ^ g)) && decide (s ||| 2 ^ g < 1024)
theorem bits_t : bitsT = true := by decide +kernel
theorem bits_s {s g : Nat} (hs : s < 1024) (hg : g < 10) : ((((nI s >>> (nI g &&& 31)) &&& 1) = 1) ↔ s.testBit g = true) ∧ (nI s ||| (1 <<< (nI g &&& 31))) = nI (s ||| 2 ^ g) ∧ s ||| 2 ^ g < 1024 := by
  have h := all_r (all_r bits_t s hs) g hg
  rw [Bool.and_eq_true, Bool.and_eq_true] at h
  obtain ⟨⟨h1, h2⟩, h3⟩ := h
  refine ⟨?_, of_decide_eq_true h2, of_decide_eq_true h3⟩
  have e := eq_of_beq h1
  rw [← e]
  exact decide_eq_true_iff.symm
theorem inj_le : ∀ (n C : Nat) (f : Nat → Nat), (∀ i, i < C → f i < n) → (∀ i j, i < j → j < C → f i ≠ f j) → C ≤ n := by
  intro n
  induction n with
  | zero =>
    intro C f h1 _
    cases C with
    | zero => omega
    | succ C => exact absurd (h1 0 (by omega)) (by omega)
  | succ n ih =>
    intro C f h1 h2
    by_cases q : ∃ i, i < C ∧ f i = n
    · obtain ⟨i, hi, e⟩ := q
      have := ih (C - 1) (fun j => if j < i then f j else f (j + 1)) (fun j hj => by
        show (if j < i then f j else f (j + 1)) < n
        by_cases z : j < i
        · rw [if_pos z]
          have a := h1 j (by omega)
          have b := h2 j i z hi
          omega
        · rw [if_neg z]
          have a := h1 (j + 1) (by omega)
          have b := h2 i (j + 1) (by omega) (by omega)
          omega) (fun a b hab hb => by
        show (if a < i then f a else f (a + 1)) ≠ if b < i then f b else f (b + 1)
        by_cases z : a < i
        · rw [if_pos z]
          by_cases z2 : b < i
          · rw [if_pos z2]; exact h2 a b hab (by omega)
          · rw [if_neg z2]; exact h2 a (b + 1) (by omega) (by omega)
        · rw [if_neg z, if_neg (by omega)]; exact h2 (a + 1) (b + 1) (by omega) (by omega))
      omega
    · have := ih C f (fun j hj => by
        have a := h1 j hj
        by_cases z : f j = n
        · exact absurd ⟨j, hj, z⟩ q
        · omega) h2
      omega
/-- who is still to go, up to minute m and the going g -/
def LUq (lv : Nat → Nat) (n0 a m g C : Nat) (cm : Nat → Nat) : Prop := (∀ d, d < C → cm d < n0 ∧ a ≤ lv (cm d) ∧ (lv (cm d) < m ∨ (lv (cm d) = m ∧ cm d < g))) ∧ (∀ d e, d < e → e < C → lv (cm d) < lv (cm e) ∨ (lv (cm d) = lv (cm e) ∧ cm d < cm e)) ∧ (∀ g', g' < n0 → a ≤ lv g' → (lv g' < m ∨ (lv g' = m ∧ g' < g)) → ∃ d, d < C ∧ cm d = g')
section
variable {σ : LH} {lv cm : Nat → Nat} {n0 a m g C : Nat}
theorem LUq.c10 (h : LUq lv n0 a m g C cm) : C ≤ n0 := inj_le n0 C cm (fun i hi => (h.1 i hi).1) (fun i j hij hj => by
  rcases h.2.1 i j hij hj with z | z
  · intro w
    rw [w] at z
    omega
  · omega)
theorem LUq.no (h : LUq lv n0 a m g C cm) (hg : lv g ≠ m) : LUq lv n0 a m (g + 1) C cm := by
  refine ⟨fun d hd => ?_, h.2.1, fun g' h1 h2 h3 => h.2.2 g' h1 h2 ?_⟩
  · obtain ⟨a1, a2, a3⟩ := h.1 d hd
    exact ⟨a1, a2, by omega⟩
  · rcases h3 with z | ⟨z1, z2⟩
    · exact Or.inl z
    · refine Or.inr ⟨z1, ?_⟩
      by_cases e : g' = g
      · subst e; exact absurd z1 hg
      · omega
theorem LUq.nx (h : LUq lv n0 a m n0 C cm) : LUq lv n0 a (m + 1) 0 C cm := by
  refine ⟨fun d hd => ?_, h.2.1, fun g' h1 h2 h3 => h.2.2 g' h1 h2 ?_⟩
  · obtain ⟨a1, a2, a3⟩ := h.1 d hd
    exact ⟨a1, a2, by omega⟩
  · omega
theorem LUq.ad (h : LUq lv n0 a m g C cm) (hg : g < n0) (hm : lv g = m) (ha : a ≤ m) : C < n0 ∧ LUq lv n0 a m (g + 1) (C + 1) (fun d => if d = C then g else cm d) := by
  have hq : LUq lv n0 a m (g + 1) (C + 1) (fun d => if d = C then g else cm d) := by
    refine ⟨fun d hd => ?_, fun d e hde he => ?_, fun g' h1 h2 h3 => ?_⟩
    · show (if d = C then g else cm d) < n0 ∧ a ≤ lv (if d = C then g else cm d) ∧ (lv (if d = C then g else cm d) < m ∨ (lv (if d = C then g else cm d) = m ∧ (if d = C then g else cm d) < g + 1))
      by_cases q : d = C
      · rw [if_pos q]
        exact ⟨hg, by omega, Or.inr ⟨hm, by omega⟩⟩
      · rw [if_neg q]
        obtain ⟨a1, a2, a3⟩ := h.1 d (by omega)
        exact ⟨a1, a2, by omega⟩
    · show lv (if d = C then g else cm d) < lv (if e = C then g else cm e) ∨ (lv (if d = C then g else cm d) = lv (if e = C then g else cm e) ∧ (if d = C then g else cm d) < (if e = C then g else cm e))
      rw [if_neg (show ¬ d = C by omega)]
      by_cases q : e = C
      · rw [if_pos q]
        obtain ⟨a1, a2, a3⟩ := h.1 d (by omega)
        omega
      · rw [if_neg q]
        exact h.2.1 d e hde (by omega)
    · by_cases q : g' = g
      · exact ⟨C, by omega, by show (if C = C then g else cm C) = g'; rw [if_pos rfl, q]⟩
      · obtain ⟨d, d1, d2⟩ := h.2.2 g' h1 h2 (by omega)
        exact ⟨d, by omega, by show (if d = C then g else cm d) = g'; rw [if_neg (by omega)]; exact d2⟩
  exact ⟨by have := hq.c10; omega, hq⟩
end
