/-! both: the call swap -/
theorem a_swap {I J : LH → Prop} {σ τ : LH} {S P n0 ne n E mm M k N : Nat} {go ex : Nat → Nat} {who : Option Nat} {L : Nat → Nat → Nat → Int32} {ln : Nat → Nat → Nat → Nat} {qn sn : Nat → Nat} (hI : Icl I) (hIp : Ipast I J) (hz : I (stI τ 570 0 0)) (h : GI I J σ τ S P n0 ne n (E + 1) go ex who L ln qn sn mm M k N) (hmE : mm ≤ E) (hM : M ≤ 1000 * mm) (x y : Int32) : ∃ r σ' τ' k' N', s_Main_swap x y σ = some (r, σ') ∧ s_Model_swap x y τ = some (r, τ') ∧ GI I J σ' τ' S P n0 ne n (E + 1) go ex who L ln qn sn mm M k' N' := by
  have h1 := h.z hz
  have hPm : (stI τ 570 0 0).1 570 27 = nI P := by rw [stI_570, if_neg (by omega)]; exact h.1.2.1.2.2.1
  have hP : σ.1 4 1 = nI P := h.1.1.2.2.1
  have hP8 : P ≤ 8 := h.1.1.2.2.2.1
  have hS8 : S ≤ 8 := h.1.1.2.1
  have e83 : (stI τ 570 0 0).1 583 = τ.1 583 := stI_n (by omega)
  have no : s_Main_swap x y σ = some (-1, σ) → s_Model_swap x y τ = some (-1, stI τ 570 0 0) → ∃ r σ' τ' k' N', s_Main_swap x y σ = some (r, σ') ∧ s_Model_swap x y τ = some (r, τ') ∧ GI I J σ' τ' S P n0 ne n (E + 1) go ex who L ln qn sn mm M k' N' := fun a b => ⟨-1, σ, stI τ 570 0 0, k, N, a, b, h1⟩
  by_cases q1 : 0 ≤ x ∧ x < nI P
  · obtain ⟨p, hp, rfl⟩ := nI_ofx (by omega) q1.1 q1.2
    have cp : σ.1 40 p = τ.1 583 (4 * p) := h.2.1.1.c1 p hp
    have mS : s_Model_isSitter (nI p) (stI τ 570 0 0) = some (1, stI τ 570 0 0) := by rw [m_isSitter, hPm, if_pos q1]
    have mH : s_Model_isHere 583 (nI p) (stI τ 570 0 0) = some (if τ.1 583 (4 * p) = -2 then 0 else 1, stI τ 570 0 0) := by rw [m_isHere (by omega), e83]
    have gp := g_isHere hP hP8 hp
    rw [cp] at gp
    by_cases q2 : 0 ≤ y ∧ y < nI P
    · obtain ⟨q, hq, rfl⟩ := nI_ofx (by omega) q2.1 q2.2
      have cq : σ.1 40 q = τ.1 583 (4 * q) := h.2.1.1.c1 q hq
      have mS2 : s_Model_isSitter (nI q) (stI τ 570 0 0) = some (1, stI τ 570 0 0) := by rw [m_isSitter, hPm, if_pos q2]
      have mH2 : s_Model_isHere 583 (nI q) (stI τ 570 0 0) = some (if τ.1 583 (4 * q) = -2 then 0 else 1, stI τ 570 0 0) := by rw [m_isHere (by omega), e83]
      have gq := g_isHere hP hP8 hq
      rw [cq] at gq
      have ips : ib (4 * nI p) 290 := by rw [c4]; exact ib_nI (by omega) (by omega)
      have iqs : ib (4 * nI q) 290 := by rw [c4]; exact ib_nI (by omega) (by omega)
      have t1 : (4 * nI p).toNatClampNeg = 4 * p := by rw [c4]; exact nI_clamp (by omega)
      have t2 : (4 * nI q).toNatClampNeg = 4 * q := by rw [c4]; exact nI_clamp (by omega)
      have eC : s_Main_swap (nI p) (nI q) σ = if (τ.1 583 (4 * p) ≠ -2 ∧ τ.1 583 (4 * q) ≠ -2) ∧ p ≠ q ∧ ¬ (τ.1 583 (4 * p) = -1 ∧ τ.1 583 (4 * q) = -1) then s_Main_swap_51 (nI p) (nI q) σ else some (-1, σ) := by
        unfold s_Main_swap
        rw [gp]
        simp only [xb2]
        by_cases y1 : τ.1 583 (4 * p) = -2
        · rw [if_pos y1, if_neg (show ¬ ((τ.1 583 (4 * p) ≠ -2 ∧ τ.1 583 (4 * q) ≠ -2) ∧ p ≠ q ∧ ¬ (τ.1 583 (4 * p) = -1 ∧ τ.1 583 (4 * q) = -1)) from fun z => z.1.1 y1)]
          rfl
        · rw [if_neg y1, if_neg (show ¬ (1 : Int32) = 0 by decide), gq]
          simp only
          by_cases y2 : τ.1 583 (4 * q) = -2
          · rw [if_pos y2, if_neg (show ¬ ((τ.1 583 (4 * p) ≠ -2 ∧ τ.1 583 (4 * q) ≠ -2) ∧ p ≠ q ∧ ¬ (τ.1 583 (4 * p) = -1 ∧ τ.1 583 (4 * q) = -1)) from fun z => z.1.2 y2)]
            rfl
          · rw [if_neg y2, if_neg (show ¬ (1 : Int32) = 0 by decide)]
            by_cases y3 : p = q
            · rw [if_pos (show nI p = nI q by rw [y3]), if_neg (show ¬ ((τ.1 583 (4 * p) ≠ -2 ∧ τ.1 583 (4 * q) ≠ -2) ∧ p ≠ q ∧ ¬ (τ.1 583 (4 * p) = -1 ∧ τ.1 583 (4 * q) = -1)) from fun z => z.2.1 y3)]
              rfl
            · rw [if_neg (show ¬ nI p = nI q from fun z => y3 (nI_ij (by omega) (by omega) z)), if_pos (ib_nI (by omega) (by omega)), nI_clamp (show p < 2 ^ 31 by omega), cp]
              by_cases y4 : τ.1 583 (4 * p) = -1
              · rw [if_pos y4, if_pos (ib_nI (by omega) (by omega)), nI_clamp (show q < 2 ^ 31 by omega), cq]
                by_cases y5 : τ.1 583 (4 * q) = -1
                · rw [if_pos y5, if_neg (show ¬ ((τ.1 583 (4 * p) ≠ -2 ∧ τ.1 583 (4 * q) ≠ -2) ∧ p ≠ q ∧ ¬ (τ.1 583 (4 * p) = -1 ∧ τ.1 583 (4 * q) = -1)) from fun z => z.2.2 ⟨y4, y5⟩)]
                · rw [if_neg y5, if_pos ⟨⟨y1, y2⟩, y3, fun z => y5 z.2⟩]
              · rw [if_neg y4, if_pos ⟨⟨y1, y2⟩, y3, fun z => y4 z.1⟩]
      have eM : s_Model_swap (nI p) (nI q) τ = if (τ.1 583 (4 * p) ≠ -2 ∧ τ.1 583 (4 * q) ≠ -2) ∧ p ≠ q ∧ τ.1 583 (4 * p) ≠ τ.1 583 (4 * q) then xb1 (s_Model_remember (stI τ 570 0 0)) (fun σ23 => some ((stI (stI σ23 583 (4 * p) (σ23.1 583 (4 * q))) 583 (4 * q) (σ23.1 583 (4 * p))).1 570 46, stI (stI σ23 583 (4 * p) (σ23.1 583 (4 * q))) 583 (4 * q) (σ23.1 583 (4 * p)))) else some (-1, stI τ 570 0 0) := by
        unfold s_Model_swap
        simp only [xl]
        rw [mS]
        simp only [xb2]
        rw [if_neg (show ¬ (1 : Int32) = 0 by decide), mS2]
        simp only
        rw [if_neg (show ¬ (1 : Int32) = 0 by decide)]
        by_cases y3 : p = q
        · rw [if_pos (show nI p = nI q by rw [y3]), if_neg (fun z => z.2.1 y3)]
          rfl
        · rw [if_neg (show ¬ nI p = nI q from fun z => y3 (nI_ij (by omega) (by omega) z)), mH]
          simp only
          by_cases y1 : τ.1 583 (4 * p) = -2
          · rw [if_pos y1, if_neg (show ¬ ((τ.1 583 (4 * p) ≠ -2 ∧ τ.1 583 (4 * q) ≠ -2) ∧ p ≠ q ∧ τ.1 583 (4 * p) ≠ τ.1 583 (4 * q)) from fun z => z.1.1 y1)]
            rfl
          · rw [if_neg y1, if_neg (show ¬ (1 : Int32) = 0 by decide), mH2]
            simp only
            by_cases y2 : τ.1 583 (4 * q) = -2
            · rw [if_pos y2, if_neg (show ¬ ((τ.1 583 (4 * p) ≠ -2 ∧ τ.1 583 (4 * q) ≠ -2) ∧ p ≠ q ∧ τ.1 583 (4 * p) ≠ τ.1 583 (4 * q)) from fun z => z.1.2 y2)]
              rfl
            · rw [if_neg y2, if_neg (show ¬ (1 : Int32) = 0 by decide)]
              simp only [if_pos ips, if_pos iqs, t1, t2, e83]
              by_cases y4 : τ.1 583 (4 * p) = τ.1 583 (4 * q)
              · rw [if_pos y4, if_neg (show ¬ ((τ.1 583 (4 * p) ≠ -2 ∧ τ.1 583 (4 * q) ≠ -2) ∧ p ≠ q ∧ τ.1 583 (4 * p) ≠ τ.1 583 (4 * q)) from fun z => z.2.2 y4)]
                rfl
              · rw [if_neg y4, if_pos (show (τ.1 583 (4 * p) ≠ -2 ∧ τ.1 583 (4 * q) ≠ -2) ∧ p ≠ q ∧ τ.1 583 (4 * p) ≠ τ.1 583 (4 * q) from ⟨⟨y1, y2⟩, y3, y4⟩)]
      have cond : ((τ.1 583 (4 * p) ≠ -2 ∧ τ.1 583 (4 * q) ≠ -2) ∧ p ≠ q ∧ ¬ (τ.1 583 (4 * p) = -1 ∧ τ.1 583 (4 * q) = -1)) ↔ ((τ.1 583 (4 * p) ≠ -2 ∧ τ.1 583 (4 * q) ≠ -2) ∧ p ≠ q ∧ τ.1 583 (4 * p) ≠ τ.1 583 (4 * q)) := by
        constructor
        · rintro ⟨z1, z2, z3⟩
          refine ⟨z1, z2, fun z => ?_⟩
          rcases h.2.1.2.1.1.1 p hp with g | g | ⟨s, hs, g⟩
          · exact z3 ⟨g, z ▸ g⟩
          · exact z1.1 g
          · exact z2 (h.2.1.1.uniq hs hp hq g (z ▸ g))
        · rintro ⟨z1, z2, z3⟩
          exact ⟨z1, z2, fun z => z3 (z.1.trans z.2.symm)⟩
      by_cases q3 : (τ.1 583 (4 * p) ≠ -2 ∧ τ.1 583 (4 * q) ≠ -2) ∧ p ≠ q ∧ τ.1 583 (4 * p) ≠ τ.1 583 (4 * q)
      · rw [if_pos (cond.mpr q3)] at eC
        rw [if_pos q3] at eM
        obtain ⟨σ1, τ1, r1, r2, h2, -, e83b⟩ := h1.rem hIp hmE hM
        have e83c : τ1.1 583 = τ.1 583 := e83b.trans e83
        obtain ⟨c1, h3⟩ := h2.swap hI hIp hp hq q3.2.1 (by rw [e83c]; exact q3.1.1) (by rw [e83c]; exact q3.1.2) (by rw [e83c]; exact q3.2.2)
        unfold s_Main_swap_51 at eC
        rw [r1] at eC
        rw [r2] at eM
        simp only [xb1] at eC eM
        rw [c1] at eC
        simp only at eC
        have et : stI (stI τ1 583 (4 * p) (τ1.1 583 (4 * q))) 583 (4 * q) (τ1.1 583 (4 * p)) = stF τ1 583 (mSw p q (τ1.1 583)) := by
          show stI (stF τ1 583 (upd (τ1.1 583) (4 * p) (τ1.1 583 (4 * q)))) 583 (4 * q) (τ1.1 583 (4 * p)) = _
          rw [stI_F]
          rfl
        rw [et] at eM
        refine ⟨_, _, _, _, _, eC, eM.trans ?_, h3⟩
        have k1 := h3.2.2.2.1.1
        have k2 := h3.2.2.2.1.2.2.1
        rw [k1, k2]
      · rw [if_neg (fun z => q3 (cond.mp z))] at eC
        rw [if_neg q3] at eM
        exact no eC eM
    · refine no ?_ ?_
      · unfold s_Main_swap
        rw [gp]
        simp only [xb2]
        by_cases y1 : τ.1 583 (4 * p) = -2
        · rw [if_pos y1]
          rfl
        · rw [if_neg y1, if_neg (show ¬ (1 : Int32) = 0 by decide), g_isHere0 hP hP8 q2]
          rfl
      · unfold s_Model_swap
        simp only [xl]
        rw [mS]
        simp only [xb2]
        rw [if_neg (show ¬ (1 : Int32) = 0 by decide), m_isSitter, hPm, if_neg q2]
        rfl
  · refine no ?_ ?_
    · unfold s_Main_swap
      rw [g_isHere0 hP hP8 q1]
      rfl
    · unfold s_Model_swap
      simp only [xl]
      rw [m_isSitter, hPm, if_neg q1]
      rfl
