/-! both: the call go -/
theorem GI.z {I J : LH → Prop} {σ τ : LH} {S P n0 ne n eN mm M k N : Nat} {go ex : Nat → Nat} {who : Option Nat} {L : Nat → Nat → Nat → Int32} {ln : Nat → Nat → Nat → Nat} {qn sn : Nat → Nat} (h : GI I J σ τ S P n0 ne n eN go ex who L ln qn sn mm M k N) (hz : I (stI τ 570 0 0)) : GI I J σ (stI τ 570 0 0) S P n0 ne n eN go ex who L ln qn sn mm M k N := by
  obtain ⟨K, hH, hG, ⟨p1, p2, p3, p4, p5, p6⟩, hIt, hJt⟩ := h
  have e83 : (stI τ 570 0 0).1 583 = τ.1 583 := stI_n (by omega)
  have e90 : (stI τ 570 0 0).1 590 = τ.1 590 := stI_n (by omega)
  refine ⟨K.cg (fun _ _ => rfl) ⟨fun b hb => stI_n (by omega), fun j hj => by rw [stI_570, if_neg (by omega)]⟩, by rw [e83]; exact hH, by rw [e83]; exact hG, ⟨p1, p2, by rw [stI_570, if_neg (by omega)]; exact p3, p4, p5, fun i hi => by rw [e90]; exact p6 i hi⟩, hz, hJt⟩
theorem GI.mm {I J : LH → Prop} {σ τ : LH} {S P n0 ne n eN mm M k N : Nat} {go ex : Nat → Nat} {who : Option Nat} {L : Nat → Nat → Nat → Int32} {ln : Nat → Nat → Nat → Nat} {qn sn : Nat → Nat} (h : GI I J σ τ S P n0 ne n eN go ex who L ln qn sn mm M k N) : σ.1 39 7 = nI mm ∧ τ.1 583 48 = nI mm := ⟨h.2.1.1.m.trans h.2.1.2.1.1.2.1, h.2.1.2.1.1.2.1⟩
theorem go_loop {I J : LH → Prop} {S P n0 ne n E g : Nat} {go ex : Nat → Nat} {who : Option Nat} {L : Nat → Nat → Nat → Int32} {ln : Nat → Nat → Nat → Nat} {qn sn : Nat → Nat} (hI : Icl I) (hIp : Ipast I J) (hL : LKok I P S L) (hE : E < 100) (hg : g < 100) : ∀ (r f f' y mm M k N : Nat) (σ τ : LH), GI I J σ τ S P n0 ne n (E + 1) go ex who L ln qn sn mm M k N → y + r = g → r < f → r < f' → mm + r ≤ E → M ≤ 1000 * mm → ∃ σ' τ' M' k' N', s_Main_go_23 (nI g) f (nI y) σ = some (nI (mm + r), σ') ∧ s_Model_go_35 (nI g) f' (nI y) τ = some (nI (mm + r), τ') ∧ M' ≤ 1000 * (mm + r) ∧ GI I J σ' τ' S P n0 ne n (E + 1) go ex who L ln qn sn (mm + r) M' k' N' := by
  intro r
  induction r with
  | zero =>
    intro f f' y mm M k N σ τ h hy hf hf' hmE hM
    obtain ⟨f, rfl⟩ : ∃ q, f = q + 1 := ⟨f - 1, by omega⟩
    obtain ⟨f', rfl⟩ : ∃ q, f' = q + 1 := ⟨f' - 1, by omega⟩
    obtain ⟨e1, e2⟩ := h.mm
    refine ⟨σ, τ, M, k, N, ?_, ?_, by omega, h⟩
    · rw [s_Main_go_23]
      unfold s_Main_go_23_b
      rw [if_pos (nI_le (by omega) (by omega)), e1]
      rfl
    · rw [s_Model_go_35]
      unfold s_Model_go_35_b
      rw [if_pos (nI_le (by omega) (by omega)), if_pos (show ib 48 290 by decide), show τ.1 583 (Int32.toNatClampNeg 48) = nI mm from e2]
      rfl
  | succ r ih =>
    intro f f' y mm M k N σ τ h hy hf hf' hmE hM
    obtain ⟨f, rfl⟩ : ∃ q, f = q + 1 := ⟨f - 1, by omega⟩
    obtain ⟨f', rfl⟩ : ∃ q, f' = q + 1 := ⟨f' - 1, by omega⟩
    obtain ⟨σ1, σ2, τ1, τ2, M2, a1, a2, b1, b2, hM2, h2⟩ := st_remgo hI hIp hL h (by omega) (by omega) (by omega)
    obtain ⟨σ3, τ3, M3, k3, N3, c1, c2, hM3, h3⟩ := ih f f' (y + 1) (mm + 1) M2 _ _ σ2 τ2 h2 (by omega) (by omega) (by omega) (by omega) (by omega)
    rw [show mm + 1 + r = mm + (r + 1) by omega] at c1 c2 hM3 h3
    refine ⟨σ3, τ3, M3, k3, N3, ?_, ?_, hM3, h3⟩
    · rw [s_Main_go_23]
      unfold s_Main_go_23_b
      rw [if_neg (nI_ge (by omega) (by omega)), a1]
      simp only [xb1]
      rw [a2]
      simp only [xl]
      rw [nI_1]
      exact c1
    · rw [s_Model_go_35]
      unfold s_Model_go_35_b
      rw [if_neg (nI_ge (by omega) (by omega)), b1]
      simp only [xb1]
      rw [b2]
      simp only [xl]
      rw [nI_1]
      exact c2
theorem a_go {I J : LH → Prop} {σ τ : LH} {S P n0 ne n E mm M k N : Nat} {go ex : Nat → Nat} {who : Option Nat} {L : Nat → Nat → Nat → Int32} {ln : Nat → Nat → Nat → Nat} {qn sn : Nat → Nat} (hI : Icl I) (hIp : Ipast I J) (hL : LKok I P S L) (hz : I (stI τ 570 0 0)) (h : GI I J σ τ S P n0 ne n (E + 1) go ex who L ln qn sn mm M k N) (hE : E < 100) (hEc : σ.1 4 15 = nI E) (hEm : τ.1 581 1 = nI E) (hmE : mm ≤ E) (hM : M ≤ 1000 * mm) (hP0 : P = 0 → E = mm) (x : Int32) : ∃ r σ' τ' mm' M' k' N', s_Main_go x σ = some (r, σ') ∧ s_Model_go x τ = some (r, τ') ∧ mm' ≤ E ∧ M' ≤ 1000 * mm' ∧ GI I J σ' τ' S P n0 ne n (E + 1) go ex who L ln qn sn mm' M' k' N' := by
  have h1 := h.z hz
  have hPm : τ.1 570 27 = nI P := h.1.2.1.2.2.1
  have hP8 : P ≤ 8 := h.1.1.2.2.2.1
  obtain ⟨e1, e2⟩ := h.mm
  obtain ⟨c, rfl⟩ : ∃ c, E = mm + c := ⟨E - mm, by omega⟩
  have no : s_Main_go x σ = some (-1, σ) → s_Model_go x τ = some (-1, stI τ 570 0 0) → ∃ r σ' τ' mm' M' k' N', s_Main_go x σ = some (r, σ') ∧ s_Model_go x τ = some (r, τ') ∧ mm' ≤ mm + c ∧ M' ≤ 1000 * mm' ∧ GI I J σ' τ' S P n0 ne n (mm + c + 1) go ex who L ln qn sn mm' M' k' N' := fun a b => ⟨-1, σ, stI τ 570 0 0, mm, M, k, N, a, b, by omega, hM, h1⟩
  have eM : s_Model_go x τ = if P = 0 then some (-1, stI τ 570 0 0) else if 1 ≤ x ∧ x ≤ (if nI c < 60 then nI c else 60) then s_Model_go_35 x FUEL 0 (stI τ 570 0 0) else some (-1, stI τ 570 0 0) := by
    have e27 : (stI τ 570 0 0).1 570 27 = nI P := by rw [stI_570, if_neg (by omega)]; exact hPm
    unfold s_Model_go
    simp only [xl]
    rw [e27]
    by_cases q : P = 0
    · rw [if_pos q, if_pos (show nI P = 0 by rw [q]; rfl)]
      rfl
    · rw [if_neg q, if_neg (show ¬ nI P = 0 from fun z => q (nI_ij (b := 0) (by omega) (by omega) z))]
      unfold s_Model_left
      rw [if_pos (show ib 1 2 by decide), if_pos (show ib 48 290 by decide), stI_n (by omega), stI_n (by omega), show τ.1 581 (Int32.toNatClampNeg 1) = nI (mm + c) from hEm, show τ.1 583 (Int32.toNatClampNeg 48) = nI mm from e2, nI_sb]
      simp only [xb2]
      rw [show (1 : Int64) = Int32.toInt64 1 from rfl, m_isIn]
      simp only
      by_cases q2 : 1 ≤ x ∧ x ≤ (if nI c < 60 then nI c else 60)
      · rw [if_pos q2, if_neg (show ¬ (1 : Int32) = 0 by decide), if_pos q2]
      · rw [if_neg q2, if_pos rfl, if_neg q2]
        rfl
  have eC : s_Main_go x σ = if 1 ≤ x ∧ x ≤ 60 ∧ x ≤ nI c then s_Main_go_23 x FUEL 0 σ else some (-1, σ) := by
    unfold s_Main_go s_Main_minutesLeft
    by_cases q1 : x < 1
    · rw [if_pos q1, if_neg (fun z => Int32.not_le.mpr q1 z.1)]
      rfl
    · rw [if_neg q1]
      by_cases q2 : 60 < x
      · rw [if_pos q2, if_neg (fun z => Int32.not_le.mpr q2 z.2.1)]
        rfl
      · rw [if_neg q2, hEc, e1, nI_sb]
        simp only [xb2]
        by_cases q3 : x ≤ nI c
        · rw [if_pos q3, if_pos ⟨Int32.not_lt.mp q1, Int32.not_lt.mp q2, q3⟩]
        · rw [if_neg q3, if_neg (fun z => q3 z.2.2)]
          rfl
  have cond : (1 ≤ x ∧ x ≤ (if nI c < 60 then nI c else 60)) ↔ (1 ≤ x ∧ x ≤ 60 ∧ x ≤ nI c) := by
    by_cases q : nI c < 60
    · rw [if_pos q]
      exact ⟨fun z => ⟨z.1, Int32.le_of_lt (Int32.lt_of_le_of_lt z.2 q), z.2⟩, fun z => ⟨z.1, z.2.2⟩⟩
    · rw [if_neg q]
      exact ⟨fun z => ⟨z.1, z.2, Int32.le_trans z.2 (Int32.not_lt.mp q)⟩, fun z => ⟨z.1, z.2.1⟩⟩
  by_cases q : 1 ≤ x ∧ x ≤ 60 ∧ x ≤ nI c
  · obtain ⟨g, rfl, g1, g2⟩ := nI_btw (a := 1) (b := c) (by omega) (by omega) q.1 q.2.2
    have qP : ¬ P = 0 := fun z => by have := hP0 z; omega
    obtain ⟨σ', τ', M', k', N', r1, r2, r3, r4⟩ := go_loop (g := g) hI hIp hL hE (by omega) g FUEL FUEL 0 mm M k N σ (stI τ 570 0 0) h1 (by omega) (by unfold FUEL; omega) (by unfold FUEL; omega) (by omega) hM
    rw [nI_0] at r1 r2
    rw [if_pos q] at eC
    rw [if_neg qP, if_pos (cond.mpr q)] at eM
    exact ⟨_, σ', τ', mm + g, M', k', N', eC.trans r1, eM.trans r2, by omega, r3, r4⟩
  · rw [if_neg q] at eC
    rw [if_neg (fun z => q (cond.mp z)), ite_self] at eM
    exact no eC eM
