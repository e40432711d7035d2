/-! been: as told, in both; the end of a choice -/
def tdR (f : Nat → Int32) (who : Nat → Nat) (whr : Nat → Int32) : Nat → Nat → Bool
  | 0, _ => true
  | m + 1, k => if f (who k) = whr k then tdR f who whr m (k + 1) else false
theorem tdR_cg {f f' : Nat → Int32} {who : Nat → Nat} {whr : Nat → Int32} : ∀ m k, (∀ i, i < k + m → f' (who i) = f (who i)) → tdR f' who whr m k = tdR f who whr m k := by
  intro m
  induction m with
  | zero => intro k _; rfl
  | succ m ih =>
    intro k h
    show (if f' (who k) = whr k then tdR f' who whr m (k + 1) else false) = if f (who k) = whr k then tdR f who whr m (k + 1) else false
    rw [h k (by omega), ih (k + 1) (fun i hi => h i (by omega))]
def TDc (σ : LH) (T : Nat) (who : Nat → Nat) (whr : Nat → Int32) : Prop := σ.1 81 10 = nI T ∧ ∀ i, i < T → σ.1 83 i = nI (who i) ∧ σ.1 84 i = whr i
def TDm (τ : LH) (T : Nat) (who : Nat → Nat) (whr : Nat → Int32) : Prop := τ.1 570 57 = nI T ∧ ∀ i, i < T → τ.1 595 i = nI (who i) ∧ τ.1 596 i = whr i
theorem c_told {σ : LH} {h T : Nat} {who : Nat → Nat} {whr : Nat → Int32} (hd : TDc σ T who whr) (hT : T ≤ 8) (hw : ∀ i, i < T → who i < 8) : ∀ (m f k : Nat), k + m = T → m < f → s_Branches_isAsTold_2 h f (nI k) σ = some (if tdR (σ.1 (h + 1)) who whr m k = true then 1 else 0, σ) := by
  intro m
  induction m with
  | zero =>
    intro f k hk hf
    obtain ⟨f, rfl⟩ : ∃ q, f = q + 1 := ⟨f - 1, by omega⟩
    rw [s_Branches_isAsTold_2]
    unfold s_Branches_isAsTold_2_b s_Branches_isAsTold_56
    rw [hd.1, if_pos (nI_le (by omega) (by omega))]
    rfl
  | succ m ih =>
    intro f k hk hf
    obtain ⟨f, rfl⟩ : ∃ q, f = q + 1 := ⟨f - 1, by omega⟩
    obtain ⟨d1, d2⟩ := hd.2 k (by omega)
    have hw8 := hw k (by omega)
    rw [s_Branches_isAsTold_2]
    unfold s_Branches_isAsTold_2_b s_Branches_isAsTold_50
    rw [hd.1, if_neg (nI_ge (by omega) (by omega)), if_neg (show ¬ (8 : Int32) ≤ nI k from nI_ge (b := 8) (by omega) (by omega)), if_pos (ib_nI (by omega) (by omega)), nI_clamp (show k < 2 ^ 31 by omega), d1, xl_so, if_neg (show ¬ nI (who k) < 0 from Int32.not_lt.mpr (nI_le (show 0 ≤ who k by omega) (by omega) : nI 0 ≤ nI (who k))), if_neg (show ¬ (8 : Int32) ≤ nI (who k) from nI_ge (b := 8) (by omega) (by omega)), if_pos (ib_nI hw8 (by omega)), if_pos (ib_nI (by omega) (by omega)), nI_clamp (show who k < 2 ^ 31 by omega), d2]
    show _ = some (if (if σ.1 (h + 1) (who k) = whr k then tdR (σ.1 (h + 1)) who whr m (k + 1) else false) = true then 1 else 0, σ)
    by_cases q : σ.1 (h + 1) (who k) = whr k
    · rw [if_pos q, if_pos q, nI_1, xl_so]
      exact ih f (k + 1) (by omega) (by omega)
    · rw [if_neg q, if_neg q, if_neg (show ¬ false = true by decide)]
theorem m_told {τ : LH} {x : Int32} {T : Nat} {who : Nat → Nat} {whr : Nat → Int32} (hd : TDm τ T who whr) (hT : T ≤ 8) (hw : ∀ i, i < T → who i < 8) : ∀ (m f k : Nat), k + m = T → m < f → s_Model_isSo_31 x f (nI k) τ = some (if tdR (fun p => τ.1 584 (4 * p)) who whr m k = true then 1 else 0, τ) := by
  intro m
  induction m with
  | zero =>
    intro f k hk hf
    obtain ⟨f, rfl⟩ : ∃ q, f = q + 1 := ⟨f - 1, by omega⟩
    rw [s_Model_isSo_31]
    unfold s_Model_isSo_31_b
    rw [hd.1, if_pos (nI_le (by omega) (by omega))]
    rfl
  | succ m ih =>
    intro f k hk hf
    obtain ⟨f, rfl⟩ : ∃ q, f = q + 1 := ⟨f - 1, by omega⟩
    obtain ⟨d1, d2⟩ := hd.2 k (by omega)
    have hw8 := hw k (by omega)
    rw [s_Model_isSo_31]
    unfold s_Model_isSo_31_b
    rw [hd.1, if_neg (nI_ge (by omega) (by omega)), if_pos (ib_nI (by omega) (by omega)), nI_clamp (show k < 2 ^ 31 by omega), d1, c4, if_pos (ib_nI (by omega) (by omega)), if_pos (ib_nI (by omega) (by omega)), nI_clamp (show 4 * who k < 2 ^ 31 by omega), d2]
    show _ = some (if (if τ.1 584 (4 * who k) = whr k then tdR (fun p => τ.1 584 (4 * p)) who whr m (k + 1) else false) = true then 1 else 0, τ)
    by_cases q : τ.1 584 (4 * who k) = whr k
    · rw [if_pos q, if_pos q, nI_1, xl_so]
      exact ih f (k + 1) (by omega) (by omega)
    · rw [if_neg q, if_neg q, if_neg (show ¬ false = true by decide)]
/-- under the set s all comes as told, or not -/
def OUTs (L : Nat → Nat → Nat → Int32) (τ0 : LH) (S P n0 E mm : Nat) (go : Nat → Nat) (T : Nat) (who : Nat → Nat) (whr : Nat → Int32) (A : Nat → Int32) (x : Int32) (b : Bool) : Prop := ∀ (τ' : LH) (v : Int32), RMb τ0 τ' → τ'.1 570 39 = x → ∃ A' v', mRun L τ' S P n0 0 go (fun _ => 0) 1000 (E - mm) mm A v = some (A', v') ∧ tdR (fun p => A' (4 * p)) who whr T 0 = b
section
variable {I : LH → Prop} {σ τ σ' τ' σ0 τ0 : LH} {S P n0 n E mm M t T : Nat} {go who : Nat → Nat} {whr : Nat → Int32} {L : Nat → Nat → Nat → Int32} {ln : Nat → Nat → Nat → Nat} {qn sn : Nat → Nat} {x : Int32} {w : Wd} {A B : Nat → Int32} {b : Bool}
theorem PBx.out (h : PBx L σ0 τ0 S P n n0 mm M go E x w) (hw : ∀ i, i < T → who i < P) (hH : HR σ0 S P n mm M (gH σ0 39) A) : OUTs L τ0 S P n0 E mm go T who whr A x (tdR (w 1) who whr T 0) := by
  intro τ' v h1 h2
  obtain ⟨A', dd, d1, d2, d3⟩ := h τ' h1 (by rw [h2]; exact Ag.rf) A v hH
  exact ⟨A', _, d2, tdR_cg T 0 (fun i hi => (d3.1.c1 (who i) (hw i (by omega))).symm)⟩
theorem OUTs.je (h : OUTs L τ0 S P n0 E mm go T who whr A x b) (G : ∀ τ', RMb τ0 τ' → τ'.1 570 39 = x → ∃ τ2, RMb τ0 τ2 ∧ τ2.1 570 39 = x ∧ MGo τ2 S P n0 0 go (fun _ => 0)) (hA : AOk S P mm A) (hJ : JE S P A B) (hw : ∀ i, i < T → who i < P) : OUTs L τ0 S P n0 E mm go T who whr B x b := by
  intro τ' v h1 h2
  obtain ⟨τ2, g1, g2, g3⟩ := G τ' h1 h2
  obtain ⟨A', v', a1, a2⟩ := h τ2 v g1 g2
  obtain ⟨B', b1, b2⟩ := je_run g3 (E - mm) mm A B A' v v' hA hJ a1
  refine ⟨B', v', ?_, ?_⟩
  · rw [← b1]
    refine mRun_hap (τ := τ2) (τ' := τ') ⟨h1.1.trans g1.1.symm, h1.2.1.trans g1.2.1.symm, h1.2.2.trans g1.2.2.symm⟩ (E - mm) mm B v (by rw [hJ.m]; exact hA.2.1) (by rw [g2, h2]; exact Ag.rf)
  · rw [← a2]
    exact tdR_cg T 0 (fun i hi => b2.c0 (hw i (by omega)))
end
