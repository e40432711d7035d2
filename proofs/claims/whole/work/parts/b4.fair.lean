/-! fair -/
section
variable {I : LH → Prop} {σ τ σ' τ' σ0 τ0 : LH} {S P n0 n E mm M d k : Nat} {go ord ord' : Nat → Nat} {L : Nat → Nat → Nat → Int32} {ln : Nat → Nat → Nat → Nat} {qn sn : Nat → Nat}
theorem f_all (hD : Idep I) (hL : LKok I P S L) (X : QX I σ τ S P n0 n E go L ln qn sn mm M) (hP0 : 0 < P) (hP5 : P ≤ 5) (hPE : mm + P ≤ E) (hd : d < 100) : ∃ σ' τ', s_Branches_findOrder (nI d) σ = some σ' ∧ s_Model_goFair RF (nI d) 0 0 (stI τ 570 53 (-1)) = some τ' ∧ FR scC σ σ' ∧ FT scM τ τ' ∧ QX I σ' τ' S P n0 n E go L ln qn sn mm M ∧ FBo True σ' τ' := by
  have hS8 := X.S8
  have hP8 := X.P8
  have f1 : FR scC σ (stI (stI σ 81 5 (nI d)) 81 7 (-1)) := (FR.I (by unfold scC; omega)).tr (FR.I (by unfold scC; omega))
  have f2 : FT scM τ (stI τ 570 53 (-1)) := FT.I (by unfold scM; omega)
  have e81 : (stI (stI σ 81 5 (nI d)) 81 7 (-1)).1 81 7 = -1 ∧ (stI (stI σ 81 5 (nI d)) 81 7 (-1)).1 81 5 = nI d := by
    refine ⟨?_, ?_⟩
    · rw [stI_e, if_pos rfl]
    · rw [stI_e, if_neg (by omega), stI_e, if_pos rfl]
  have e38 : (stI (stI σ 81 5 (nI d)) 81 7 (-1)).1 38 = σ.1 38 := by rw [stI_n (by omega), stI_n (by omega)]
  have X1 : QX I (stI (stI σ 81 5 (nI d)) 81 7 (-1)) (stI τ 570 53 (-1)) S P n0 n E go L ln qn sn mm M := X.q f1 f2 ⟨by rw [e38]; exact X.fin.1, by rw [e38]; exact X.fin.2.1, by rw [stI_570, if_neg (by omega)]; exact X.fin.2.2.1, by rw [stI_570, if_neg (by omega)]; exact X.fin.2.2.2⟩ (hD.I X.it (by omega))
  have e53 : (stI τ 570 53 (-1)).1 570 53 = -1 := by rw [stI_570, if_pos rfl]
  generalize hσ1 : stI (stI σ 81 5 (nI d)) 81 7 (-1) = σ1 at *
  generalize stI τ 570 53 (-1) = τ1 at *
  have hh : gh 96 := by unfold gh; omega
  obtain ⟨w, A, b1, -, R, we, -⟩ := q_begin X1 hh
  have f3 : FR scC σ1 (sH σ1 96 w) := FR.g hh
  have X2 : QX I (sH σ1 96 w) τ1 S P n0 n E go L ln qn sn mm M := X1.q f3 FT.rf ⟨by rw [sH_lo (by omega)]; exact X1.fin.1, by rw [sH_lo (by omega)]; exact X1.fin.2.1, X1.fin.2.2.1, X1.fin.2.2.2⟩ X1.it
  have ea : ∀ c, c < 9 → gH (sH σ1 96 w) (96 + 9 * 0) c = w c := fun c hc => sH_in (h := 96) hc
  have eb : ∀ c, c < 9 → gH (sH σ1 96 w) 39 c = gH σ1 39 c := fun c hc => by
    show (sH σ1 96 w).1 (39 + c) = σ1.1 (39 + c)
    rw [sH_lo (by omega)]
  have we2 : WE (gH (sH σ1 96 w) 39) (gH (sH σ1 96 w) (96 + 9 * 0)) := ⟨fun c h1 h2 j hj => by rw [ea c (by omega), eb c (by omega)]; exact we.1 c h1 h2 j hj, by rw [ea 0 (by omega), eb 0 (by omega)]; exact we.2.1, by rw [ea 0 (by omega), eb 0 (by omega)]; exact we.2.2.1, by rw [ea 0 (by omega), eb 0 (by omega)]; exact we.2.2.2⟩
  have e2 : (sH σ1 96 w).1 81 = σ1.1 81 := sH_lo (by omega)
  obtain ⟨σ3, τ3, r1, r2, r3, r4, r5⟩ := f_rec hD hL X2 hP0 hP5 hPE hd P 0 RF RF 0 (fun _ => 0) False (sH σ1 96 w) τ1 (by omega) (by unfold RF; omega) (by unfold RF; omega) ⟨X2, FR.rf, FT.rf, PIx.zero we2 hS8 hP8, fun j hj => absurd hj (by omega), by rw [e2]; exact e81.2⟩ (fun j hj => absurd hj (by omega)) (fun p hp => ⟨fun _ i hi => absurd hi (by omega), fun _ => by
    have : ∀ p, p < 8 → (((0 : Int32) >>> (nI p &&& 31)) &&& 1) = 0 := by decide
    exact this p (by omega)⟩) ⟨by rw [e53, e2]; exact e81.1.symm, Or.inr (by rw [e2]; exact e81.1), fun z => z.elim⟩
  rw [nI_0] at r1 r2
  refine ⟨σ3, τ3, ?_, r2, (f1.tr f3).tr r3.1, f2.tr r3.2.1, r4, r5⟩
  unfold s_Branches_findOrder
  rw [xl_so, xl_so, hσ1, if_pos (show ib 0 11 by decide), show 96 + 9 * Int32.toNatClampNeg 0 = 96 from rfl, xl_so, b1, xb1_so, show s_Branches_order RF 0 0 0 (sH σ1 96 w) = some σ3 from r1, xb1_so]
theorem a_fair (hD : Idep I) (hL : LKok I P S L) (X : QX I σ τ S P n0 n E go L ln qn sn mm M) (x z : Int32) : QR I (s_Main_fair x z σ) (s_Model_fair x z τ) σ τ := by
  have X0 := X.z hD
  have hP8 := X.P8
  have hE := X.e100
  have hmE := X.mE
  have le5 : ((5 : Int32) < nI P) ↔ 5 < P := by
    rw [show (5 : Int32) = nI 5 from rfl, nI_ltI (by omega) (by omega)]
  have leE : (nI P ≤ nI (E - mm)) ↔ P ≤ E - mm := nI_leI (by omega) (by omega)
  by_cases q1 : P = 0
  · refine QR.no X hD (-1000000) ?_ ?_
    · unfold s_Main_fair s_Main_fair_24
      rw [g_hasRoom X, xb2_so, if_pos q1, if_pos rfl]
    · unfold s_Model_fair s_Model_fair_53
      rw [xl_so, if_pos ((m_noRoom X0).mpr q1)]
  · have uM : s_Model_fair x z τ = if 5 < P then some (-1000000, stI τ 570 0 0) else if 1 ≤ x ∧ x ≤ 3 then if z = 0 ∨ z = 1 then if P ≤ E - mm then xb1 (s_Model_goFair RF x 0 0 (stI (stI τ 570 0 0) 570 53 (-1))) (fun σ18 => if z = 0 then some (σ18.1 570 54, σ18) else some (σ18.1 570 53, σ18)) else some (-1000000, stI τ 570 0 0) else some (-1000000, stI τ 570 0 0) else some (-1000000, stI τ 570 0 0) := by
      unfold s_Model_fair s_Model_fair_53 s_Model_fair_84
      rw [xl_so, if_neg (fun y => q1 ((m_noRoom X0).mp y)), X0.mP, m_in13, xb2_so, m_choice, xb2_so, X0.mL, xb2_so, xl_so, X0.mP]
      simp only [le5, leE, ite10]
    have uC : s_Main_fair x z σ = if 1 ≤ x ∧ x ≤ 3 then if z = 0 ∨ z = 1 then if 5 < P then some (-1000000, σ) else if P ≤ E - mm then xb1 (s_Branches_findOrder x σ) (fun σ17 => if z = 0 then some (σ17.1 81 6, σ17) else some (σ17.1 81 7, σ17)) else some (-1000000, σ) else some (-1000000, σ) else some (-1000000, σ) := by
      unfold s_Main_fair s_Main_fair_24 s_Main_fair_52 s_Main_fair_84
      rw [g_hasRoom X, xb2_so, if_neg q1, if_neg (show ¬ (1 : Int32) = 0 by decide), g_noC, xb2_so, X.gL, xb2_so, X.hP]
      simp only [le5, leE, ite01, ite_rg]
    by_cases q2 : 5 < P
    · refine QR.no X hD (-1000000) ?_ ?_
      · rw [uC, if_pos q2, ite_self, ite_self]
      · rw [uM, if_pos q2]
    · by_cases q3 : 1 ≤ x ∧ x ≤ 3
      · by_cases q4 : z = 0 ∨ z = 1
        · by_cases q5 : P ≤ E - mm
          · rw [if_pos q3, if_pos q4, if_neg q2, if_pos q5] at uC
            rw [if_neg q2, if_pos q3, if_pos q4, if_pos q5] at uM
            obtain ⟨d, rfl, d1, d2⟩ := nI_btw (a := 1) (b := 3) (by omega) (by omega) q3.1 q3.2
            obtain ⟨σ3, τ3, r1, r2, r3, r4, r5, r6⟩ := f_all hD hL X0 (by omega) (by omega) (by omega) (show d < 100 by omega)
            rw [r1, xb1_so] at uC
            rw [r2, xb1_so] at uM
            have e6 := r6.2.2 trivial
            have e7 := r6.1
            refine ⟨if z = 0 then σ3.1 81 6 else σ3.1 81 7, σ3, τ3, ?_, ?_, r3, FT.z.tr r4, r5.fin, r5.it⟩
            · rw [uC]
              by_cases q : z = 0
              · rw [if_pos q, if_pos q]
              · rw [if_neg q, if_neg q]
            · rw [uM, e6, e7]
              by_cases q : z = 0
              · rw [if_pos q, if_pos q]
              · rw [if_neg q, if_neg q]
          · rw [if_pos q3, if_pos q4, if_neg q2, if_neg q5] at uC
            rw [if_neg q2, if_pos q3, if_pos q4, if_neg q5] at uM
            exact QR.no X hD _ uC uM
        · rw [if_pos q3, if_neg q4] at uC
          rw [if_neg q2, if_pos q3, if_neg q4] at uM
          exact QR.no X hD _ uC uM
      · rw [if_neg q3] at uC
        rw [if_neg q2, if_neg q3] at uM
        exact QR.no X hD _ uC uM
end
