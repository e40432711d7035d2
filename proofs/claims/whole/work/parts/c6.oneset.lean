/-! been: one set, in the model -/
section
variable {I : LH → Prop} {σ τ σ' τ' σ0 τ0 : LH} {S P n0 n E mm M T C k s s' : Nat} {go who cm lv : Nat → Nat} {whr : Nat → Int32} {L : Nat → Nat → Nat → Int32} {ln : Nat → Nat → Nat → Nat} {qn sn : Nat → Nat} {x : Int32} {b : Bool}
theorem m_isSoS (hD : Idep I) (hL : LKok I P S L) (X : QX I σ τ S P n0 n E go L ln qn sn mm M) (hT : T ≤ 8) (hwP : ∀ i, i < T → who i < P) (ht : TDm τ T who whr) (fτ : FT scM τ0 τ) (hO : OUTs L τ0 S P n0 E mm go T who whr (τ0.1 583) x b) : ∃ τ', s_Model_isSo x τ = some (if b = true then 1 else 0, τ') ∧ FT scM τ τ' ∧ QX I σ τ' S P n0 n E go L ln qn sn mm M ∧ TDm τ' T who whr := by
  have hS8 := X.S8
  have hP8 := X.P8
  have hE := X.e100
  have hmE := X.mE
  obtain ⟨g, g1, g2⟩ := X.2.2.1.2.1.1.2.2
  have b2 : s_Model_copy 583 584 τ = some (stF τ 584 (cpy (50 + 4 * g) (τ.1 583) (τ.1 584))) := m_copy (by omega) g2 g1
  have hA : ∀ j, j < 50 → cpy (50 + 4 * g) (τ.1 583) (τ.1 584) j = τ.1 583 j := fun j hj => if_pos (by omega)
  generalize cpy (50 + 4 * g) (τ.1 583) (τ.1 584) = A at b2 hA
  have X1 := X.F (A := A) hD
  have f1 : FT scM τ (stF τ 584 A) := FT.a
  have n584 : (stF τ 584 A).1 584 = A := stF_s
  generalize hτ1 : stF τ 584 A = τ1 at *
  have f2 : FT scM τ1 (stI τ1 570 39 x) := FT.I (by unfold scM; omega)
  have e39 : (stI τ1 570 39 x).1 570 39 = x := by rw [stI_570, if_pos rfl]
  have e40 : (stI τ1 570 39 x).1 570 40 = 0 := by rw [stI_570, if_neg (by omega)]; exact X1.fin.2.2.2
  have fx : FR bcC σ (stI σ 38 2 x) := (FR.I (by unfold scC; omega) : FR scC σ (stI σ 38 2 x)).bc
  have K2 : LK (stI σ 38 2 x) (stI τ1 570 39 x) S P n0 0 n (E + 1) go (fun _ => 0) none L ln qn sn := X1.1.qh fx f2 (by rw [stI_e, if_pos rfl]) e39 (by rw [stI_e, if_neg (by omega)]; exact X1.fin.2.1) e40
  have e81 : (stI τ1 570 39 x).1 581 1 = nI E := by rw [stI_n (by omega)]; exact X1.tE
  have e84 : (stI τ1 570 39 x).1 584 = A := by rw [stI_n (by omega)]; exact n584
  have eI : I (stI τ1 570 39 x) := hD.I X1.it (by omega)
  generalize hτ2 : stI τ1 570 39 x = τ2 at *
  have ft2 : FT scM τ0 τ2 := (fτ.tr f1).tr f2
  have rb : RMb τ0 τ2 := ⟨ft2.ar (fun j => by unfold scM; omega), ft2.ar (fun j => by unfold scM; omega), ft2.ar (fun j => by unfold scM; omega)⟩
  have e583 : τ.1 583 = τ0.1 583 := fτ.ar (fun j => by unfold scM; omega)
  have hJ : JE S P (τ0.1 583) A := fun j hj => by
    unfold JK at hj
    rw [← e583]
    exact hA j (by omega)
  have hAk : AOk S P mm (τ0.1 583) := by rw [← e583]; exact X.2.2.1.2.1.1
  obtain ⟨A2, v2, o1, o2⟩ := (hO.je (fun τ' h1 h2 => ⟨τ2, rb, e39, K2.2.1⟩) hAk hJ hwP) τ2 0 rb e39
  have hAA : AOk S P mm A := by
    obtain ⟨z1, z2, z3⟩ := X.2.2.1.2.1.1
    exact ⟨fun p hp => by rw [hA _ (by omega)]; exact z1 p hp, by rw [hA _ (by omega)]; exact z2, by rw [hA _ (by omega)]; exact z3⟩
  have mt := Mt.rf (a := 584) eI
  rw [e84] at mt
  obtain ⟨⟨τc, m1, m2⟩, -⟩ := m_toEnd hD.cl hL (Or.inr rfl) K2.2.1 (show 1000 < 10000 by omega) e81 (by omega) hmE hAA mt o1
  have f3 : FT scM τc (stI τc 570 39 (-1)) := FT.I (by unfold scM; omega)
  have ft : FT scM τ (stI τc 570 39 (-1)) := ((f1.tr f2).tr m2.ft).tr f3
  have td : TDm (stI τc 570 39 (-1)) T who whr := by
    refine ⟨by rw [ft.1 570 57 (by unfold scM; omega)]; exact ht.1, fun i hi => ?_⟩
    rw [ft.ar (b := 595) (fun j => by unfold scM; omega), ft.ar (b := 596) (fun j => by unfold scM; omega)]
    exact ht.2 i hi
  have tl := m_told (x := x) td hT (fun i hi => by have := hwP i hi; omega) T FUEL 0 (by omega) (by unfold FUEL; omega)
  have ea : (stI τc 570 39 (-1)).1 584 = A2 := by rw [stI_n (by omega), m2.A (Or.inr rfl)]
  rw [nI_0, ea, o2] at tl
  refine ⟨stI τc 570 39 (-1), ?_, ft, X.q FR.rf ft ⟨X.fin.1, X.fin.2.1, by rw [stI_570, if_pos rfl], ?_⟩ (hD.I m2.2 (by omega)), td⟩
  · unfold s_Model_isSo
    rw [b2, xb1_so, xl_so, hτ2, m1, xb1_so, xl_so]
    exact tl
  · rw [stI_570, if_neg (by omega), m2.fld (Or.inr rfl) (by omega) (by omega)]
    exact e40
end
