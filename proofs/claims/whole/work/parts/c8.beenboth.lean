/-! been: both answer alike, once what fits is found -/
theorem fiR_neg {f : Nat → Bool} {x : Int32} (hx : x < -1) : ∀ (m k c : Nat), c + m < 2 ^ 20 → fiR f x m k (nI c) = -1 := by
  intro m
  induction m with
  | zero =>
    intro k c hc
    show (if x = -1 then nI c else -1) = -1
    rw [if_neg (fun z => by rw [z] at hx; exact absurd hx (by decide))]
  | succ m ih =>
    intro k c hc
    have h0 : (0 : Int32) ≤ nI c := nI_le (a := 0) (b := c) (by omega) (by omega)
    have ne : ¬ nI c = x := fun z => by
      rw [z] at h0
      have h1 : (0 : Int32) < 0 := Int32.lt_of_le_of_lt h0 (Int32.lt_trans hx (by decide))
      exact absurd h1 (by decide)
    show (if f k = true then (if nI c = x then nI k else fiR f x m (k + 1) (nI c + 1)) else fiR f x m (k + 1) (nI c)) = -1
    rw [if_neg ne, nI_1, ih (k + 1) (c + 1) (by omega), ih (k + 1) c (by omega), ite_self]
theorem sub_le {s m : Nat} (hs : s < 1024) (h : ∀ g, g < 10 → s.testBit g = true → m.testBit g = true) : s ≤ m := by
  have e : s &&& m = s := by
    apply Nat.eq_of_testBit_eq
    intro i
    rw [Nat.testBit_and]
    by_cases q : i < 10
    · cases hb : s.testBit i with
      | false => rfl
      | true => rw [h i q hb]; rfl
    · have e2 : (2 : Nat) ^ 10 ≤ 2 ^ i := Nat.pow_le_pow_right (by omega) (by omega)
      rw [Nat.testBit_lt_two_pow (show s < 2 ^ i by omega)]
      rfl
  rw [← e]
  exact Nat.and_le_right
section
variable {I : LH → Prop} {σ τ σ' τ' σ0 τ0 : LH} {S P n0 n E mm M T C k s s' : Nat} {go who cm lv : Nat → Nat} {whr : Nat → Int32} {L : Nat → Nat → Nat → Int32} {ln : Nat → Nat → Nat → Nat} {qn sn : Nat → Nat} {x : Int32} {b : Bool}
/-- what fits, as the class keeps it -/
def FITc (L : Nat → Nat → Nat → Int32) (τ : LH) (S P n0 E mm T : Nat) (go who lv : Nat → Nat) (whr : Nat → Int32) (A : Nat → Int32) (F : Nat → Int32) : Prop := ∀ s, s < 1024 → ((∀ g, g < 10 → s.testBit g = true → (mkR lv mm n0).testBit g = true) → ∃ b, OUTs L τ S P n0 E mm go T who whr A (nI s) b ∧ F s = if b = true then 1 else 0) ∧ (¬ (∀ g, g < 10 → s.testBit g = true → (mkR lv mm n0).testBit g = true) → F s = 0)
theorem b_ans (hD : Idep I) (hL : LKok I P S L) (X : QX I σ τ S P n0 n E go L ln qn sn mm M) (hT : T ≤ 8) (hwP : ∀ i, i < T → who i < P) (ht : TDm τ T who whr) (hl : ∀ g, g < n0 → τ.1 579 (3 * g + 1) = nI (lv g) ∧ lv g < 100) {σ1 : LH} (hF : FITc L τ S P n0 E mm T go who lv whr (τ.1 583) (σ1.1 86)) (hx : -1 ≤ x) : ∃ r τ', s_Branches_fitting x σ1 = some (r, σ1) ∧ s_Model_been_23 x FUEL 0 0 τ = some (r, τ') ∧ FT scM τ τ' ∧ QX I σ τ' S P n0 n E go L ln qn sn mm M := by
  have hE := X.e100
  have hmE := X.mE
  have hn : n0 ≤ 10 := X.1.1.2.2.2.2.2.1
  have hmk := mkR_lt (lv := lv) (a := mm) n0 hn
  obtain ⟨fb, hfb⟩ : ∃ fb : Nat → Bool, fb = fun s => decide (s < 1024 ∧ σ1.1 86 s = 1) := ⟨_, rfl⟩
  have f86 : ∀ s, s < 1024 → σ1.1 86 s = if fb s = true then 1 else 0 := fun s hs => by
    have v : σ1.1 86 s = 0 ∨ σ1.1 86 s = 1 := by
      by_cases q : ∀ g, g < 10 → s.testBit g = true → (mkR lv mm n0).testBit g = true
      · obtain ⟨b, -, b2⟩ := (hF s hs).1 q
        rw [b2]
        cases b
        · exact Or.inl rfl
        · exact Or.inr rfl
      · exact Or.inl ((hF s hs).2 q)
    rw [hfb]
    show _ = if decide (s < 1024 ∧ σ1.1 86 s = 1) = true then 1 else 0
    rcases v with v | v
    · rw [decide_eq_false (fun z => by rw [v] at z; exact absurd z.2 (by decide)), if_neg (show ¬ false = true by decide)]
      exact v
    · rw [decide_eq_true ⟨hs, v⟩, if_pos rfl]
      exact v
  have cf := c_fit (x := x) f86 1024 FUEL 0 0 (by omega) (by unfold FUEL; omega)
  have hf0 : ∀ s, s < 1024 → ¬ (∀ g, g < 10 → s.testBit g = true → (mkR lv mm n0).testBit g = true) → fb s = false := fun s hs q => by
    rw [hfb]
    exact decide_eq_false (fun z => by rw [(hF s hs).2 q] at z; exact absurd z.2 (by decide))
  have hf1 : ∀ s, s < 1024 → (∀ g, g < 10 → s.testBit g = true → (mkR lv mm n0).testBit g = true) → OUTs L τ S P n0 E mm go T who whr (τ.1 583) (nI s) (fb s) := fun s hs q => by
    obtain ⟨b, b1, b2⟩ := (hF s hs).1 q
    have e : fb s = b := by
      rw [hfb]
      show decide (s < 1024 ∧ σ1.1 86 s = 1) = b
      rw [b2]
      cases b
      · exact decide_eq_false (fun z => absurd z.2 (by decide))
      · exact decide_eq_true ⟨hs, rfl⟩
    rw [e]
    exact b1
  obtain ⟨τ', m1, m2, m3⟩ := m_sets (x := x) hD hL hT hwP hmk hf0 hf1 (mkR lv mm n0 + 1) FUEL 0 0 τ (by omega) (by unfold FUEL; omega) X ht FT.rf
  have mm1 := m_mask (x := x) (τ := τ) hn X.1.2.1.2.2.2.2.1 X.tm (show mm < 100 by omega) hl n0 FUEL 0 (by omega) (by unfold FUEL; omega)
  have cut := fiR_app (f := fb) (x := x) (mkR lv mm n0 + 1) (1023 - mkR lv mm n0) 0 0 (fun j hj => by
    by_cases q : j < 1024
    · exact hf0 j q (fun z => by have := sub_le q z; omega)
    · rw [hfb]
      exact decide_eq_false (fun z => q z.1))
  rw [show mkR lv mm n0 + 1 + (1023 - mkR lv mm n0) = 1024 by omega] at cut
  rw [nI_0] at cf m1
  rw [show mkR lv mm 0 = 0 from rfl, nI_0] at mm1
  refine ⟨fiR fb x 1024 0 0, τ', cf, ?_, m2, m3⟩
  rw [mm1, m1, cut]
end
