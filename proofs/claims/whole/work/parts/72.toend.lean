/-! to the end, for a guess; keeping -/
theorem sH_com {σ : LH} {h b i : Nat} {w : Wd} {v : Int32} (hb : b < h ∨ h + 9 ≤ b) : stI (sH σ h w) b i v = sH (stI σ b i v) h w := by
  unfold stI stF
  rw [sH_off hb]
  unfold sH
  refine Prod.ext ?_ rfl
  funext c
  show (if c = b then upd (σ.1 b) i v else if h ≤ c ∧ c < h + 9 then w (c - h) else σ.1 c) = if h ≤ c ∧ c < h + 9 then w (c - h) else if c = b then upd (σ.1 b) i v else σ.1 c
  by_cases q : c = b
  · subst q
    rw [if_pos rfl, if_neg (by omega), if_pos rfl]
  · rw [if_neg q, if_neg q]
section
variable {I : LH → Prop} {σ τ σ' τ' : LH} {S P n0 ne ne' n E eN mm M : Nat} {go ex ex' : Nat → Nat} {who who' : Option Nat} {L : Nat → Nat → Nat → Int32} {ln : Nat → Nat → Nat → Nat} {qn sn : Nat → Nat}
theorem FIN.F {A : Nat → Int32} (h : FIN σ τ) : FIN σ (stF τ 584 A) := ⟨h.1, h.2.1, by rw [stF_n (by omega)]; exact h.2.2.1, by rw [stF_n (by omega)]; exact h.2.2.2⟩
theorem FIN.s (h : FIN σ τ) (e : σ'.1 38 = σ.1 38) : FIN σ' τ := ⟨by rw [e]; exact h.1, by rw [e]; exact h.2.1, h.2.2⟩
theorem FT.a {A : Nat → Int32} : FT scM τ (stF τ 584 A) := FT.F (fun j => by unfold scM; omega)
theorem QX.F {A : Nat → Int32} (X : QX I σ τ S P n0 n E go L ln qn sn mm M) (hD : Idep I) : QX I σ (stF τ 584 A) S P n0 n E go L ln qn sn mm M := X.q FR.rf FT.a X.fin.F (hD.F X.it (by omega))
theorem QX.H {h : Nat} {w : Wd} (X : QX I σ τ S P n0 n E go L ln qn sn mm M) (hh : gh h) : QX I (sH σ h w) τ S P n0 n E go L ln qn sn mm M := X.q (FR.g hh) FT.rf (X.fin.s (sH_lo (by unfold gh at hh; omega))) X.it
/-- to the end, from a hall and a world alike -/
theorem q_end {h : Nat} (hD : Idep I) (hL : LKok I P S L) (X : QX I σ τ S P n0 n E go L ln qn sn mm M) (hh : gh h) {w : Wd} {A : Nat → Int32} (R : HR σ S P n mm M w A) : ∃ w' d τ', d ≤ 100000 ∧ s_Evening_run h (nI E) (sH σ h w) = some (sH σ h w') ∧ s_Model_toEnd 584 (stF τ 584 A) = some τ' ∧ HR σ S P n E (M + d) w' (τ'.1 584) ∧ FT scM τ τ' ∧ τ'.1 570 41 = nI d ∧ QX I (sH σ h w') τ' S P n0 n E go L ln qn sn mm M := by
  have h39 : 39 ≤ h := by unfold gh at hh; omega
  have X1 := X.F (A := A) hD
  have hM := X.M1
  have hmE := X.mE
  have hE := X.e100
  obtain ⟨w', A', d, τ', d1, r1, m1, m2, r3⟩ := q_toEnd (h := h) (U := E) (w := w) hD.cl hL X1.1 X1.2.1 h39 X1.cE X1.tE hE X1.it (by rw [stF_s]; exact R) (by omega) (by omega) hmE (by omega)
  have eA := m2.A (Or.inr rfl)
  exact ⟨w', d, τ', d1, r1, m1, by rw [eA]; exact r3, FT.a.tr m2.ft, m2.mv, (X1.H hh).q FR.rf m2.ft (((X1.H hh).fin).mt m2 rfl) m2.2⟩
/-- one keeps so many minutes -/
theorem HR.keep {p c : Nat} {w : Wd} {A : Nat → Int32} (R : HR σ S P n mm M w A) (hS8 : S ≤ 8) (hP8 : P ≤ 8) (hp : p < P) (hc : c ≤ 9) : HR σ S P n mm M (u2 w 3 p (nI c)) (upd A (4 * p + 2) (nI c)) := by
  obtain ⟨hR, hW, hO, h8⟩ := R
  refine ⟨hR.col3 hS8 hP8 hp, hW.keep hS8 hP8 hp hc, ?_, by rw [u2_c (by omega)]; exact h8⟩
  have e0 : u2 w 3 p (nI c) 0 = w 0 := u2_c (by omega)
  rcases hO with z | ⟨n', r', z1, z2, z3, z4⟩
  · exact Or.inl (by rw [e0]; exact z)
  · refine Or.inr ⟨n', r', z1, z2, by rw [e0]; exact z3, fun q => ?_⟩
    rw [pickC_cg (w := w) (u2_c (by omega)) (u2_c (by omega)) (u2_c (by omega)) (fun p hp => by rw [hR.c1 p hp]; exact hW.1.1 p hp) hS8]
    exact z4 q
theorem q_joyKeeping {p c : Nat} (hD : Idep I) (hL : LKok I P S L) (X : QX I σ τ S P n0 n E go L ln qn sn mm M) (hp : p < P) (hc : c ≤ 9) : ∃ r σ' τ', s_Guess_joyKeeping (nI p) (nI c) σ = some (r, σ') ∧ s_Model_joyKeeping (nI p) (nI c) τ = some (r, τ') ∧ FR scC σ σ' ∧ FT scM τ τ' ∧ QX I σ' τ' S P n0 n E go L ln qn sn mm M := by
  have hS8 := X.S8
  have hP8 := X.P8
  have hh : gh 59 := by unfold gh; omega
  obtain ⟨w, A, b1, b2, R, we, hA⟩ := q_begin X hh
  obtain ⟨w', d, τ', d1, r1, m1, R2, f1, -, X2⟩ := q_end hD hL X hh (R.keep hS8 hP8 hp hc)
  have c62 : stI (sH σ 59 w) 62 p (nI c) = sH σ 59 (u2 w 3 p (nI c)) := sH_stI (h := 59) (c := 3) (by omega)
  refine ⟨w' 4 p, sH σ 59 w', τ', ?_, ?_, FR.g hh, f1, X2⟩
  · unfold s_Guess_joyKeeping
    rw [b1]
    simp only [xb1, xl]
    rw [if_pos (ib_nI (by omega) (by omega)), nI_clamp (show p < 2 ^ 31 by omega), c62, sH_lo (b := 4) (by omega), X.cE, r1]
    simp only
    rw [if_pos (ib_nI (by omega) (by omega)), sH_in (h := 59) (c := 4) (by omega)]
  · unfold s_Model_joyKeeping
    rw [b2]
    simp only [xb1, xl]
    rw [c4, a2, a3, if_pos (ib_nI (by omega) (by omega)), nI_clamp (show 4 * p + 2 < 2 ^ 31 by omega), stI_F, m1]
    simp only
    rw [if_pos (ib_nI (by omega) (by omega)), nI_clamp (show 4 * p + 3 < 2 ^ 31 by omega), R2.1.c4 p hp]
theorem a_keeping (hD : Idep I) (hL : LKok I P S L) (X : QX I σ τ S P n0 n E go L ln qn sn mm M) (x y : Int32) : QR I (s_Main_keeping x y σ) (s_Model_keeping x y τ) σ τ := by
  have X0 := X.z hD
  have hP8 := X.P8
  have eC : s_Main_keeping x y σ = if 0 ≤ x ∧ x < nI P then if 0 ≤ y ∧ y ≤ 9 then xb2 (s_Guess_joyKeeping x y σ) (fun r8 σ9 => xb2 (s_Guess_joyKeeping x 0 σ9) fun r11 σ12 => some (r8 - r11, σ12)) else some (-1000000, σ) else some (-1000000, σ) := by
    unfold s_Main_keeping s_Main_keeping_18
    rw [g_isSitter X.hP hP8]
    simp only [xb2, ite10, ite_rg2]
  have eM : s_Model_keeping x y τ = if 0 ≤ x ∧ x < nI P then if 0 ≤ y ∧ y ≤ 9 then xb2 (s_Model_joyKeeping x y (stI τ 570 0 0)) (fun r11 σ12 => xb2 (s_Model_joyKeeping x 0 σ12) fun r14 σ15 => some (r11 - r14, σ15)) else some (-1000000, stI τ 570 0 0) else some (-1000000, stI τ 570 0 0) := by
    unfold s_Model_keeping s_Model_keeping_41 s_Model_keeping_44
    simp only [xl, m_isSitter, X0.mP, m_in09, xb2, ite10]
  by_cases q1 : 0 ≤ x ∧ x < nI P
  · by_cases q2 : 0 ≤ y ∧ y ≤ 9
    · rw [if_pos q1, if_pos q2] at eC eM
      obtain ⟨p, hp, rfl⟩ := nI_ofx (by omega) q1.1 q1.2
      obtain ⟨c, rfl, -, hc⟩ := nI_btw (a := 0) (b := 9) (by omega) (by omega) q2.1 q2.2
      obtain ⟨r1, σ1, τ1, g1, m1, f1, t1, X1⟩ := q_joyKeeping (c := c) hD hL X0 hp hc
      obtain ⟨r2, σ2, τ2, g2, m2, f2, t2, X2⟩ := q_joyKeeping (c := 0) hD hL X1 hp (by omega)
      rw [nI_0] at g2 m2
      rw [g1] at eC
      rw [m1] at eM
      simp only [xb2] at eC eM
      rw [g2] at eC
      rw [m2] at eM
      exact ⟨_, σ2, τ2, eC, eM, f1.tr f2, (FT.z.tr t1).tr t2, X2.fin, X2.it⟩
    · rw [if_pos q1, if_neg q2] at eC eM
      exact QR.no X hD _ eC eM
  · rw [if_neg q1] at eC eM
    exact QR.no X hD _ eC eM
end
