/-! been: the class lines up who is still to go -/
def LSt (σ : LH) (C : Nat) (cm : Nat → Nat) : Prop := σ.1 81 12 = nI C ∧ ∀ d, d < C → σ.1 85 d = nI (cm d)
def FRl (σ σ' : LH) : Prop := (∀ b, b ≠ 81 → b ≠ 85 → σ'.1 b = σ.1 b) ∧ (∀ j, j ≠ 12 → σ'.1 81 j = σ.1 81 j) ∧ σ'.2 = σ.2
section
variable {σ σ' σ'' : LH} {lv cm : Nat → Nat} {n0 a y g C : Nat}
theorem FRl.rf : FRl σ σ := ⟨fun _ _ _ => rfl, fun _ _ => rfl, rfl⟩
theorem FRl.tr (h : FRl σ σ') (h' : FRl σ' σ'') : FRl σ σ'' := ⟨fun b h1 h2 => (h'.1 b h1 h2).trans (h.1 b h1 h2), fun j hj => (h'.2.1 j hj).trans (h.2.1 j hj), h'.2.2.trans h.2.2⟩
theorem lu_in {rec13 : Int32 → LH → Option LH} (hn : n0 ≤ 10) (hl : ∀ g, g < n0 → lv g < 100) (hy : y < 100) (hay : a ≤ y) : ∀ (m f g C : Nat) (cm : Nat → Nat) (σ : LH), g + m = n0 → m < f → σ.1 4 2 = nI n0 → (∀ g, g < n0 → σ.1 13 g = nI (lv g)) → LUq lv n0 a y g C cm → LSt σ C cm → ∃ C' cm' σ', s_Branches_lineUp_21 rec13 f (nI y) (nI g) σ = rec13 (nI (y + 1)) σ' ∧ LUq lv n0 a y n0 C' cm' ∧ LSt σ' C' cm' ∧ FRl σ σ' := by
  intro m
  induction m with
  | zero =>
    intro f g C cm σ hg hf h4 h13 hq hs
    obtain ⟨f, rfl⟩ : ∃ q, f = q + 1 := ⟨f - 1, by omega⟩
    have e : g = n0 := by omega
    subst e
    refine ⟨C, cm, σ, ?_, hq, hs, FRl.rf⟩
    rw [s_Branches_lineUp_21]
    unfold s_Branches_lineUp_21_b
    rw [h4, if_pos (Int32.le_refl _), xl_so, nI_1]
  | succ m ih =>
    intro f g C cm σ hg hf h4 h13 hq hs
    obtain ⟨f, rfl⟩ : ∃ q, f = q + 1 := ⟨f - 1, by omega⟩
    have hlg := hl g (by omega)
    by_cases q : lv g = y
    · obtain ⟨c1, c2⟩ := hq.ad (by omega) q hay
      have fr : FRl σ (stI (stI σ 85 C (nI g)) 81 12 (nI (C + 1))) := by
        refine ⟨fun b h1 h2 => by rw [stI_n h1, stI_n h2], fun j hj => ?_, rfl⟩
        rw [stI_e, if_neg hj, stI_n (by omega)]
      have ls : LSt (stI (stI σ 85 C (nI g)) 81 12 (nI (C + 1))) (C + 1) (fun d => if d = C then g else cm d) := by
        refine ⟨by rw [stI_e, if_pos rfl], fun d hd => ?_⟩
        show _ = nI (if d = C then g else cm d)
        rw [stI_n (by omega), stI_e]
        by_cases z : d = C
        · rw [if_pos z, if_pos z]
        · rw [if_neg z, if_neg z]
          exact hs.2 d (by omega)
      obtain ⟨C', cm', σ', r1, r2, r3, r4⟩ := ih f (g + 1) (C + 1) _ (stI (stI σ 85 C (nI g)) 81 12 (nI (C + 1))) (by omega) (by omega) (by rw [fr.1 4 (by omega) (by omega)]; exact h4) (fun g hg => by rw [fr.1 13 (by omega) (by omega)]; exact h13 g hg) c2 ls
      refine ⟨C', cm', σ', ?_, r2, r3, fr.tr r4⟩
      rw [← r1, s_Branches_lineUp_21]
      unfold s_Branches_lineUp_21_b s_Branches_lineUp_77
      rw [h4, if_neg (nI_ge (by omega) (by omega)), if_pos (ib_nI (by omega) (by omega)), nI_clamp (show g < 2 ^ 31 by omega), h13 g (by omega), q, if_pos rfl, hs.1, if_pos (show nI C < 10 from (nI_ltI (a := C) (b := 10) (by omega) (by omega)).mpr (by omega)), if_pos (ib_nI (by omega) (by omega)), nI_clamp (show C < 2 ^ 31 by omega), xl_so, stI_n (b := 81) (by omega), hs.1, nI_1, xl_so, nI_1, xl_so]
    · obtain ⟨C', cm', σ', r1, r2, r3, r4⟩ := ih f (g + 1) C cm σ (by omega) (by omega) h4 h13 (hq.no q) hs
      refine ⟨C', cm', σ', ?_, r2, r3, r4⟩
      rw [← r1, s_Branches_lineUp_21]
      unfold s_Branches_lineUp_21_b s_Branches_lineUp_77
      rw [h4, if_neg (nI_ge (by omega) (by omega)), if_pos (ib_nI (by omega) (by omega)), nI_clamp (show g < 2 ^ 31 by omega), h13 g (by omega), if_neg (fun z => q (nI_ij (by omega) (by omega) z)), nI_1, xl_so]
theorem lu_out (hn : n0 ≤ 10) (hl : ∀ g, g < n0 → lv g < 100) : ∀ (m f y C : Nat) (cm : Nat → Nat) (σ : LH), y + m = 100 → m < f → a ≤ y → σ.1 4 2 = nI n0 → (∀ g, g < n0 → σ.1 13 g = nI (lv g)) → LUq lv n0 a y 0 C cm → LSt σ C cm → ∃ C' cm' σ', s_Branches_lineUp_13 f (nI y) σ = some σ' ∧ LUq lv n0 a 100 0 C' cm' ∧ LSt σ' C' cm' ∧ FRl σ σ' := by
  intro m
  induction m with
  | zero =>
    intro f y C cm σ hy hf hay h4 h13 hq hs
    obtain ⟨f, rfl⟩ : ∃ q, f = q + 1 := ⟨f - 1, by omega⟩
    have e : y = 100 := by omega
    subst e
    refine ⟨C, cm, σ, ?_, hq, hs, FRl.rf⟩
    rw [s_Branches_lineUp_13]
    unfold s_Branches_lineUp_13_b
    rw [if_pos (show (100 : Int32) ≤ nI 100 from Int32.le_refl _)]
  | succ m ih =>
    intro f y C cm σ hy hf hay h4 h13 hq hs
    obtain ⟨f, rfl⟩ : ∃ q, f = q + 1 := ⟨f - 1, by omega⟩
    obtain ⟨C1, cm1, σ1, r1, r2, r3, r4⟩ := lu_in (rec13 := s_Branches_lineUp_13 f) hn hl (show y < 100 by omega) hay n0 FUEL 0 C cm σ (by omega) (by unfold FUEL; omega) h4 h13 hq hs
    obtain ⟨C2, cm2, σ2, t1, t2, t3, t4⟩ := ih f (y + 1) C1 cm1 σ1 (by omega) (by omega) (by omega) (by rw [r4.1 4 (by omega) (by omega)]; exact h4) (fun g hg => by rw [r4.1 13 (by omega) (by omega)]; exact h13 g hg) r2.nx r3
    refine ⟨C2, cm2, σ2, ?_, t2, t3, r4.tr t4⟩
    rw [nI_0] at r1
    rw [← t1, ← r1, s_Branches_lineUp_13]
    unfold s_Branches_lineUp_13_b
    rw [if_neg (show ¬ (100 : Int32) ≤ nI y from nI_ge (b := 100) (by omega) (by omega))]
theorem lu_all (hn : n0 ≤ 10) (hl : ∀ g, g < n0 → lv g < 100) (ha : a < 100) (h7 : σ.1 39 7 = nI a) (h4 : σ.1 4 2 = nI n0) (h13 : ∀ g, g < n0 → σ.1 13 g = nI (lv g)) : ∃ C cm σ', s_Branches_lineUp σ = some σ' ∧ LUq lv n0 a 100 0 C cm ∧ LSt σ' C cm ∧ FRl σ σ' := by
  have fr : FRl σ (stI σ 81 12 0) := ⟨fun b h1 _ => stI_n h1, fun j hj => by rw [stI_e, if_neg hj], rfl⟩
  obtain ⟨C, cm, σ', r1, r2, r3, r4⟩ := lu_out (a := a) hn hl (100 - a) FUEL a 0 (fun _ => 0) (stI σ 81 12 0) (by omega) (by unfold FUEL; omega) (Nat.le_refl a) (by rw [fr.1 4 (by omega) (by omega)]; exact h4) (fun g hg => by rw [fr.1 13 (by omega) (by omega)]; exact h13 g hg) ⟨fun d hd => absurd hd (by omega), fun d e _ he => absurd he (by omega), fun g' _ h2 h3 => by omega⟩ ⟨by rw [stI_e, if_pos rfl]; rfl, fun d hd => absurd hd (by omega)⟩
  refine ⟨C, cm, σ', ?_, r2, r3, fr.tr r4⟩
  unfold s_Branches_lineUp
  rw [xl_so, stI_n (b := 39) (by omega), h7, xl_so]
  exact r1
end
