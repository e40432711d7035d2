/-! both: the call up -/
theorem g_isHere {σ : LH} {P p : Nat} (hP : σ.1 4 1 = nI P) (hP8 : P ≤ 8) (hp : p < P) : s_Main_isHere (nI p) σ = some (if σ.1 40 p = -2 then 0 else 1, σ) := by
  unfold s_Main_isHere
  rw [g_isSitter hP hP8, if_pos (show 0 ≤ nI p ∧ nI p < nI P from ⟨Int32.not_lt.mp (nI_pos (n := p) (by omega)), nI_lt hp (by omega)⟩)]
  simp only [xb2]
  rw [if_neg (show ¬ (1 : Int32) = 0 by decide), if_pos (ib_nI (by omega) (by omega)), nI_clamp (show p < 2 ^ 31 by omega)]
  by_cases q : σ.1 40 p = -2
  · rw [if_pos q, if_pos q]
    unfold s_Main_isHere_26 s_Main_isHere_27
    rw [if_pos (Or.inl rfl)]
  · rw [if_neg q, if_neg q]
    unfold s_Main_isHere_27
    rw [if_pos (Or.inr rfl)]
theorem g_isHere0 {σ : LH} {P : Nat} {x : Int32} (hP : σ.1 4 1 = nI P) (hP8 : P ≤ 8) (hx : ¬ (0 ≤ x ∧ x < nI P)) : s_Main_isHere x σ = some (0, σ) := by
  unfold s_Main_isHere
  rw [g_isSitter hP hP8, if_neg hx]
  simp only [xb2]
  first | rw [if_pos rfl] | rw [if_pos trivial]
  unfold s_Main_isHere_26 s_Main_isHere_27
  rw [if_pos (Or.inl rfl)]
theorem m_isOpen {τ : LH} {P mm c : Nat} (hP : τ.1 570 27 = nI P) (hP8 : P ≤ 8) (hP1 : 1 ≤ P) (hE : τ.1 581 1 = nI (mm + c)) (hm : τ.1 583 48 = nI mm) (hc : mm + c < 100) : s_Model_isOpen τ = some (if c = 0 then 0 else 1, τ) := by
  unfold s_Model_isOpen s_Model_left
  rw [hP, if_neg (show ¬ nI P ≤ 0 from nI_ge (a := 0) (b := P) (by omega) (by omega)), if_pos (show ib 1 2 by decide), if_pos (show ib 48 290 by decide), show τ.1 581 (Int32.toNatClampNeg 1) = nI (mm + c) from hE, show τ.1 583 (Int32.toNatClampNeg 48) = nI mm from hm, nI_sb]
  simp only [xb2]
  by_cases q : c = 0
  · rw [if_pos (show nI c ≤ 0 by rw [q]; decide), if_pos q]
    unfold s_Model_isOpen_18 s_Model_isOpen_19
    rw [if_pos (Or.inl rfl)]
  · rw [if_neg (show ¬ nI c ≤ 0 from nI_ge (a := 0) (b := c) (by omega) (by omega)), if_neg q]
    unfold s_Model_isOpen_19
    rw [if_pos (Or.inr rfl)]
theorem a_up {I J : LH → Prop} {σ τ : LH} {S P n0 ne n E mm M k N : Nat} {go ex : Nat → Nat} {who : Option Nat} {L : Nat → Nat → Nat → Int32} {ln : Nat → Nat → Nat → Nat} {qn sn : Nat → Nat} (hI : Icl I) (hIp : Ipast I J) (hz : I (stI τ 570 0 0)) (h : GI I J σ τ S P n0 ne n (E + 1) go ex who L ln qn sn mm M k N) (hE : E < 100) (hEc : σ.1 4 15 = nI E) (hEm : τ.1 581 1 = nI E) (hmE : mm ≤ E) (hM : M ≤ 1000 * mm) (x y : Int32) : ∃ r σ' τ' k' N', s_Main_up x y σ = some (r, σ') ∧ s_Model_up x y τ = some (r, τ') ∧ GI I J σ' τ' S P n0 ne n (E + 1) go ex who L ln qn sn mm M k' N' := by
  have h1 := h.z hz
  have hPm : (stI τ 570 0 0).1 570 27 = nI P := by rw [stI_570, if_neg (by omega)]; exact h.1.2.1.2.2.1
  have hP : σ.1 4 1 = nI P := h.1.1.2.2.1
  have hP8 : P ≤ 8 := h.1.1.2.2.2.1
  obtain ⟨e1, e2⟩ := h.mm
  obtain ⟨c, rfl⟩ : ∃ c, E = mm + c := ⟨E - mm, by omega⟩
  have e83 : (stI τ 570 0 0).1 583 = τ.1 583 := stI_n (by omega)
  have e81 : (stI τ 570 0 0).1 581 = τ.1 581 := stI_n (by omega)
  have no : s_Main_up x y σ = some (-1, σ) → s_Model_up x y τ = some (-1, stI τ 570 0 0) → ∃ r σ' τ' k' N', s_Main_up x y σ = some (r, σ') ∧ s_Model_up x y τ = some (r, τ') ∧ GI I J σ' τ' S P n0 ne n (mm + c + 1) go ex who L ln qn sn mm M k' N' := fun a b => ⟨-1, σ, stI τ 570 0 0, k, N, a, b, h1⟩
  by_cases q1 : 0 ≤ x ∧ x < nI P
  · obtain ⟨p, hp, rfl⟩ := nI_ofx (by omega) q1.1 q1.2
    have c1 : σ.1 40 p = τ.1 583 (4 * p) := h.2.1.1.c1 p hp
    have mS : s_Model_isSitter (nI p) (stI τ 570 0 0) = some (1, stI τ 570 0 0) := by rw [m_isSitter, hPm, if_pos q1]
    have mH : s_Model_isHere 583 (nI p) (stI τ 570 0 0) = some (if τ.1 583 (4 * p) = -2 then 0 else 1, stI τ 570 0 0) := by rw [m_isHere (by omega), e83]
    have gH0 := g_isHere hP hP8 hp
    rw [c1] at gH0
    by_cases q2 : τ.1 583 (4 * p) = -2
    · rw [if_pos q2] at mH gH0
      refine no ?_ ?_
      · unfold s_Main_up
        rw [gH0]
        simp only [xb2]
        first | rw [if_pos rfl] | rw [if_pos trivial]
        rfl
      · unfold s_Model_up
        simp only [xl]
        rw [mS]
        simp only [xb2]
        rw [if_neg (show ¬ (1 : Int32) = 0 by decide), mH]
        simp only
        first | rw [if_pos rfl] | rw [if_pos trivial]
        rfl
    · rw [if_neg q2] at mH gH0
      have mI : s_Model_isIn (Int32.toInt64 y) 1 9 (stI τ 570 0 0) = some (if 1 ≤ y ∧ y ≤ 9 then 1 else 0, stI τ 570 0 0) := m_isIn (a := y) (b := 1) (c := 9)
      have mO := m_isOpen (τ := stI τ 570 0 0) (mm := mm) (c := c) hPm hP8 (by omega) (by rw [e81]; exact hEm) (by rw [e83]; exact e2) hE
      have eC : s_Main_up (nI p) y σ = if (1 ≤ y ∧ y ≤ 9) ∧ c ≠ 0 then xb1 (s_Main_remember σ) (fun σ12 => xb1 (s_Hall_getUp 39 (nI p) y 1 σ12) fun σ14 => if ib (nI p) 8 then some ((σ14.1 41 (nI p).toNatClampNeg), σ14) else none) else some (-1, σ) := by
        unfold s_Main_up s_Main_minutesLeft
        rw [gH0]
        simp only [xb2]
        rw [if_neg (show ¬ (1 : Int32) = 0 by decide), hEc, e1, nI_sb]
        by_cases g1 : y < 1
        · rw [if_pos g1, if_neg (fun z => Int32.not_le.mpr g1 z.1.1)]
          rfl
        · rw [if_neg g1]
          by_cases g2 : 9 < y
          · rw [if_pos g2, if_neg (fun z => Int32.not_le.mpr g2 z.1.2)]
            rfl
          · rw [if_neg g2]
            by_cases g3 : c = 0
            · rw [if_neg (show ¬ 1 ≤ nI c by rw [g3]; decide), if_neg (fun z => z.2 g3)]
              rfl
            · rw [if_pos (show 1 ≤ nI c from nI_le (a := 1) (by omega) (by omega)), if_pos ⟨⟨Int32.not_lt.mp g1, Int32.not_lt.mp g2⟩, g3⟩]
      have eM : s_Model_up (nI p) y τ = if (1 ≤ y ∧ y ≤ 9) ∧ c ≠ 0 then xb1 (s_Model_remember (stI τ 570 0 0)) (fun σ19 => xb1 (s_Model_goesUp 583 (nI p) y 1 σ19) fun σ21 => if ib ((4 * nI p) + 1) 290 then some ((σ21.1 583 (Int32.toNatClampNeg ((4 * nI p) + 1))), σ21) else none) else some (-1, stI τ 570 0 0) := by
        unfold s_Model_up
        simp only [xl]
        rw [mS]
        simp only [xb2]
        rw [if_neg (show ¬ (1 : Int32) = 0 by decide), mH]
        simp only
        rw [if_neg (show ¬ (1 : Int32) = 0 by decide), mI]
        simp only
        by_cases g1 : 1 ≤ y ∧ y ≤ 9
        · rw [if_pos g1, if_neg (show ¬ (1 : Int32) = 0 by decide), mO]
          simp only
          by_cases g3 : c = 0
          · rw [if_pos g3, if_pos rfl, if_neg (show ¬ ((1 ≤ y ∧ y ≤ 9) ∧ c ≠ 0) from fun z => z.2 g3)]
            rfl
          · rw [if_neg g3, if_neg (show ¬ (1 : Int32) = 0 by decide), if_pos (show (1 ≤ y ∧ y ≤ 9) ∧ c ≠ 0 from ⟨g1, g3⟩)]
        · rw [if_neg g1, if_pos rfl, if_neg (show ¬ ((1 ≤ y ∧ y ≤ 9) ∧ c ≠ 0) from fun z => g1 z.1)]
          rfl
      by_cases q3 : (1 ≤ y ∧ y ≤ 9) ∧ c ≠ 0
      · rw [if_pos q3] at eC eM
        obtain ⟨d, rfl, d1, d2⟩ := nI_btw (a := 1) (b := 9) (by omega) (by omega) q3.1.1 q3.1.2
        obtain ⟨σ1, τ1, r1, r2, h2, eg, e83b⟩ := h1.rem hIp hmE hM
        obtain ⟨u1, u2, h3⟩ := h2.up (b := 1) (d := d) hI hIp (by omega) hp (by omega)
        rw [r1] at eC
        rw [r2] at eM
        simp only [xb1] at eC eM
        rw [u1] at eC
        rw [u2] at eM
        simp only at eC eM
        rw [if_pos (ib_nI (by omega) (by omega)), nI_clamp (show p < 2 ^ 31 by omega)] at eC
        rw [c4, Jvm.Pilot.CLostPlacesLaw_law_r3427_12969d.a1, if_pos (ib_nI (by omega) (by omega)), nI_clamp (show 4 * p + 1 < 2 ^ 31 by omega)] at eM
        have c2 := h3.2.1.1.c2 p hp
        refine ⟨_, _, _, _, _, eC, eM.trans ?_, h3⟩
        rw [← c2]
        rfl
      · rw [if_neg q3] at eC eM
        exact no eC eM
  · refine no ?_ ?_
    · unfold s_Main_up
      rw [g_isHere0 hP hP8 q1]
      simp only [xb2]
      first | rw [if_pos rfl] | rw [if_pos trivial]
      rfl
    · unfold s_Model_up
      simp only [xl]
      rw [m_isSitter, hPm, if_neg q1]
      simp only [xb2]
      first | rw [if_pos rfl] | rw [if_pos trivial]
      rfl
