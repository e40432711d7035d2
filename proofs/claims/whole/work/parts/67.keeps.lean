/-! both: the call keeps -/
theorem Rw.col3 {S P p : Nat} {v : Int32} {w : Wd} {A : Nat → Int32} (h : Rw S P w A) (hS8 : S ≤ 8) (hP8 : P ≤ 8) (hp : p < P) : Rw S P (u2 w 3 p v) (upd A (4 * p + 2) v) := by
  obtain ⟨c1, c2, c3, c4, c5, c6, c7, c8⟩ := h
  refine ⟨fun q hq => ?_, fun q hq => ?_, fun q hq => ?_, fun q hq => ?_, fun s hs => ?_, fun s hs => ?_, fun s hs => ?_, ?_⟩
  · rw [u2_c (by omega), pk_un (by omega)]; exact c1 q hq
  · rw [u2_c (by omega), pk_un (by omega)]; exact c2 q hq
  · rw [u2_e, upd_e]
    by_cases e : q = p
    · rw [if_pos ⟨rfl, e⟩, if_pos (by omega)]
    · rw [if_neg (fun z => e z.2), if_neg (by omega)]; exact c3 q hq
  · rw [u2_c (by omega), pk_un (by omega)]; exact c4 q hq
  · rw [u2_c (by omega)]; exact (c5 s hs).cg (fun q hq => pk_un (by omega))
  · rw [u2_c (by omega), pk_un (by omega)]; exact c6 s hs
  · rw [u2_c (by omega), pk_un (by omega)]; exact c7 s hs
  · rw [u2_c (by omega), pk_un (by omega)]; exact c8
theorem WI.keep {S P mm p c : Nat} {A : Nat → Int32} (h : WI S P mm A) (hS8 : S ≤ 8) (hP8 : P ≤ 8) (hp : p < P) (hc : c ≤ 9) : WI S P mm (upd A (4 * p + 2) (nI c)) := by
  obtain ⟨⟨h1, h1', h1''⟩, h2, h3, h4, h5⟩ := h
  refine ⟨⟨fun q hq => ?_, ?_, ?_⟩, fun q hq => ?_, fun q hq => ?_, fun s hs => ?_, fun s hs z q hq => ?_⟩
  · rw [pk_un (by omega)]; exact h1 q hq
  · rw [pk_un (by omega)]; exact h1'
  · rw [pk_un (by omega)]; exact h1''
  · rw [pk_un (by omega), pk_un (by omega)]; exact h2 q hq
  · rw [upd_e]
    by_cases e : q = p
    · rw [if_pos (by omega)]; exact ⟨c, hc, rfl⟩
    · rw [if_neg (by omega)]; exact h3 q hq
  · rw [pk_un (by omega), pk_un (by omega)]; exact h4 s hs
  · rw [pk_un (by omega)] at z ⊢; exact h5 s hs z q hq
theorem GI.keep {I J : LH → Prop} {σ τ : LH} {S P n0 ne n eN mm M k N p c : Nat} {go ex : Nat → Nat} {who : Option Nat} {L : Nat → Nat → Nat → Int32} {ln : Nat → Nat → Nat → Nat} {qn sn : Nat → Nat} (hI : Icl I) (hIp : Ipast I J) (h : GI I J σ τ S P n0 ne n eN go ex who L ln qn sn mm M k N) (hp : p < P) (hc : c ≤ 9) : GI I J (stI σ 42 p (nI c)) (stI τ 583 (4 * p + 2) (nI c)) S P n0 ne n eN go ex who L ln qn sn mm M k N := by
  have hS8 : S ≤ 8 := h.1.1.2.1
  have hP8 : P ≤ 8 := h.1.1.2.2.2.1
  obtain ⟨hR, hW, hO, h8⟩ := h.2.1
  obtain ⟨g1, g2, g3⟩ := h.2.2.1
  have e1 : stI σ 42 p (nI c) = sH σ 39 (u2 (gH σ 39) 3 p (nI c)) := by
    conv => lhs; rw [← sH_gH (σ := σ) (h := 39)]
    exact sH_stI (c := 3) (by omega)
  have e2 : stI τ 583 (4 * p + 2) (nI c) = stF τ 583 (upd (τ.1 583) (4 * p + 2) (nI c)) := rfl
  rw [e1, e2]
  refine h.set hI hIp ⟨hR.col3 hS8 hP8 hp, hW.keep hS8 hP8 hp hc, ?_, by rw [u2_c (by omega)]; exact h8⟩ ⟨by rw [u2_c (by omega)]; exact g1, by rw [pk_un (by omega)]; exact g2, fun i c hi hc => by rw [u2_c (by omega), pk_un (by omega)]; exact g3 i c hi hc⟩
  have e0 : u2 (gH σ 39) 3 p (nI c) 0 = gH σ 39 0 := u2_c (by omega)
  rcases hO with z | ⟨n', r', z1, z2, z3, z4⟩
  · exact Or.inl (by rw [e0]; exact z)
  · refine Or.inr ⟨n', r', z1, z2, by rw [e0]; exact z3, fun q => ?_⟩
    rw [pickC_cg (w := gH σ 39) (u2_c (by omega)) (u2_c (by omega)) (u2_c (by omega)) (fun p hp => by rw [hR.c1 p hp]; exact hW.1.1 p hp) hS8]
    exact z4 q
theorem a_keeps {I J : LH → Prop} {σ τ : LH} {S P n0 ne n E mm M k N : Nat} {go ex : Nat → Nat} {who : Option Nat} {L : Nat → Nat → Nat → Int32} {ln : Nat → Nat → Nat → Nat} {qn sn : Nat → Nat} (hI : Icl I) (hIp : Ipast I J) (hz : I (stI τ 570 0 0)) (h : GI I J σ τ S P n0 ne n (E + 1) go ex who L ln qn sn mm M k N) (hmE : mm ≤ E) (hM : M ≤ 1000 * mm) (x y : Int32) : ∃ r σ' τ' k' N', s_Main_keeps x y σ = some (r, σ') ∧ s_Model_keeps x y τ = some (r, τ') ∧ GI I J σ' τ' S P n0 ne n (E + 1) go ex who L ln qn sn mm M k' N' := by
  have h1 := h.z hz
  have hPm : (stI τ 570 0 0).1 570 27 = nI P := by rw [stI_570, if_neg (by omega)]; exact h.1.2.1.2.2.1
  have hP : σ.1 4 1 = nI P := h.1.1.2.2.1
  have hP8 : P ≤ 8 := h.1.1.2.2.2.1
  have e83 : (stI τ 570 0 0).1 583 = τ.1 583 := stI_n (by omega)
  have no : s_Main_keeps x y σ = some (-1, σ) → s_Model_keeps x y τ = some (-1, stI τ 570 0 0) → ∃ r σ' τ' k' N', s_Main_keeps x y σ = some (r, σ') ∧ s_Model_keeps x y τ = some (r, τ') ∧ GI I J σ' τ' S P n0 ne n (E + 1) go ex who L ln qn sn mm M k' N' := fun a b => ⟨-1, σ, stI τ 570 0 0, k, N, a, b, h1⟩
  by_cases q1 : 0 ≤ x ∧ x < nI P
  · obtain ⟨p, hp, rfl⟩ := nI_ofx (by omega) q1.1 q1.2
    have c3 : σ.1 42 p = τ.1 583 (4 * p + 2) := h.2.1.1.c3 p hp
    have gS : s_Main_isSitter (nI p) σ = some (1, σ) := by rw [g_isSitter hP hP8, if_pos q1]
    have mS : s_Model_isSitter (nI p) (stI τ 570 0 0) = some (1, stI τ 570 0 0) := by rw [m_isSitter, hPm, if_pos q1]
    have mI : s_Model_isIn (Int32.toInt64 y) 0 9 (stI τ 570 0 0) = some (if 0 ≤ y ∧ y ≤ 9 then 1 else 0, stI τ 570 0 0) := m_isIn (a := y) (b := 0) (c := 9)
    have eC : s_Main_keeps (nI p) y σ = if (0 ≤ y ∧ y ≤ 9) ∧ τ.1 583 (4 * p + 2) ≠ y then xb1 (s_Main_remember σ) (fun σ10 => some ((stI σ10 42 p y).1 1 13, stI σ10 42 p y)) else some (-1, σ) := by
      unfold s_Main_keeps
      rw [gS]
      simp only [xb2, if_pos (show ib (nI p) 8 from ib_nI (by omega) (by omega)), nI_clamp (show p < 2 ^ 31 by omega), xl]
      rw [if_neg (show ¬ (1 : Int32) = 0 by decide), c3]
      by_cases g1 : y < 0
      · rw [if_pos g1, if_neg (fun z => Int32.not_le.mpr g1 z.1.1)]
        rfl
      · rw [if_neg g1]
        by_cases g2 : 9 < y
        · rw [if_pos g2, if_neg (fun z => Int32.not_le.mpr g2 z.1.2)]
          rfl
        · rw [if_neg g2]
          by_cases g3 : τ.1 583 (4 * p + 2) = y
          · rw [if_pos g3, if_neg (fun z => z.2 g3)]
            rfl
          · rw [if_neg g3, if_pos ⟨⟨Int32.not_lt.mp g1, Int32.not_lt.mp g2⟩, g3⟩]
    have eM : s_Model_keeps (nI p) y τ = if (0 ≤ y ∧ y ≤ 9) ∧ τ.1 583 (4 * p + 2) ≠ y then xb1 (s_Model_remember (stI τ 570 0 0)) (fun σ13 => some ((stI σ13 583 (4 * p + 2) y).1 570 46, stI σ13 583 (4 * p + 2) y)) else some (-1, stI τ 570 0 0) := by
      unfold s_Model_keeps
      simp only [xl]
      rw [mS]
      simp only [xb2]
      rw [if_neg (show ¬ (1 : Int32) = 0 by decide), mI]
      simp only [c4, a2, if_pos (show ib (nI (4 * p + 2)) 290 from ib_nI (by omega) (by omega)), nI_clamp (show 4 * p + 2 < 2 ^ 31 by omega), e83]
      by_cases g1 : 0 ≤ y ∧ y ≤ 9
      · rw [if_pos g1, if_neg (show ¬ (1 : Int32) = 0 by decide)]
        by_cases g3 : τ.1 583 (4 * p + 2) = y
        · rw [if_pos g3, if_neg (show ¬ ((0 ≤ y ∧ y ≤ 9) ∧ τ.1 583 (4 * p + 2) ≠ y) from fun z => z.2 g3)]
          rfl
        · rw [if_neg g3, if_pos (show (0 ≤ y ∧ y ≤ 9) ∧ τ.1 583 (4 * p + 2) ≠ y from ⟨g1, g3⟩)]
      · rw [if_neg g1, if_pos rfl, if_neg (show ¬ ((0 ≤ y ∧ y ≤ 9) ∧ τ.1 583 (4 * p + 2) ≠ y) from fun z => g1 z.1)]
        rfl
    by_cases q3 : (0 ≤ y ∧ y ≤ 9) ∧ τ.1 583 (4 * p + 2) ≠ y
    · rw [if_pos q3] at eC eM
      obtain ⟨d, rfl, -, d2⟩ := nI_btw (a := 0) (b := 9) (by omega) (by omega) q3.1.1 q3.1.2
      obtain ⟨σ1, τ1, r1, r2, h2, -, -⟩ := h1.rem hIp hmE hM
      have h3 := h2.keep hI hIp hp d2
      rw [r1] at eC
      rw [r2] at eM
      simp only [xb1] at eC eM
      refine ⟨_, _, _, _, _, eC, eM.trans ?_, h3⟩
      have k1 := h3.2.2.2.1.1
      have k2 := h3.2.2.2.1.2.2.1
      rw [k1, k2]
    · rw [if_neg q3] at eC eM
      exact no eC eM
  · refine no ?_ ?_
    · unfold s_Main_keeps
      rw [g_isSitter hP hP8, if_neg q1]
      rfl
    · unfold s_Model_keeps
      simp only [xl]
      rw [m_isSitter, hPm, if_neg q1]
      rfl
