/-! both: the call undo answers alike -/
theorem e_undo {σ : LH} {k N : Nat} (hk : σ.1 1 13 = nI (k + 1)) (hk1 : k < 40) (hN : σ.1 1 14 = nI N) (hN1 : N < 40) : ∃ σ', s_Main_undo σ = some (nI k, σ') ∧ σ'.1 1 13 = nI k ∧ σ'.1 1 14 = nI ((N + 39) % 40) ∧ (∀ b, b ≠ 1 → (b < 39 ∨ 48 ≤ b) → σ'.1 b = σ.1 b) ∧ (∀ j, j ≠ 13 → j ≠ 14 → σ'.1 1 j = σ.1 1 j) ∧ WE (gH σ (210 + 9 * N)) (gH σ' 39) ∧ (∀ i, i < 240 → gH σ' 39 8 i = gH σ (210 + 9 * N) 8 i) ∧ σ'.2 = σ.2 := by
  unfold s_Main_undo
  rw [hk, hN, if_neg (show ¬ nI (k + 1) < 1 from nI_nlt (a := k + 1) (b := 1) (by omega) (by omega)), if_neg (nI_pos (n := N) (by omega)), if_pos (show nI N < 40 from nI_lt (b := 40) hN1 (by omega)), if_pos (ib_nI hN1 (by omega)), nI_clamp (show N < 2 ^ 31 by omega)]
  simp only [xl]
  generalize hh : 210 + 9 * N = h
  have cp := h_copyFrom (σ := σ) (a := 39) (b := h) (x := gH σ 39) (y := gH σ h) (by omega) (fun c hc => rfl)
  rw [sH_gH] at cp
  rw [cp]
  simp only [xb1]
  obtain ⟨we, w8⟩ := wCop_e (x := gH σ 39) (y := gH σ h)
  generalize u1 (wBeg (gH σ 39) (gH σ h)) 8 (va_cpy (gH σ h 8) (gH σ 39 8) 0 0 240) = w' at we w8 ⊢
  have e1 : (sH σ 39 w').1 1 = σ.1 1 := sH_lo (by omega)
  have fin : ∀ z : Int32, z = nI ((N + 39) % 40) → ∃ σ', s_Main_undo_69 z (sH σ 39 w') = some (nI k, σ') ∧ σ'.1 1 13 = nI k ∧ σ'.1 1 14 = nI ((N + 39) % 40) ∧ (∀ b, b ≠ 1 → (b < 39 ∨ 48 ≤ b) → σ'.1 b = σ.1 b) ∧ (∀ j, j ≠ 13 → j ≠ 14 → σ'.1 1 j = σ.1 1 j) ∧ WE (gH σ h) (gH σ' 39) ∧ (∀ i, i < 240 → gH σ' 39 8 i = gH σ h 8 i) ∧ σ'.2 = σ.2 := by
    intro z hz
    subst hz
    have e13 : (stI (sH σ 39 w') 1 14 (nI ((N + 39) % 40))).1 1 13 = nI (k + 1) := by rw [stI_e, if_neg (by omega), e1]; exact hk
    have ek : nI (k + 1) - 1 = nI k := by rw [← nI_1, Int32.add_sub_cancel]
    unfold s_Main_undo_69
    simp only [xl]
    rw [e13, ek]
    have hc : ∀ c, c < 9 → (stI (stI (sH σ 39 w') 1 14 (nI ((N + 39) % 40))) 1 13 (nI k)).1 (39 + c) = w' c := fun c hc => by rw [stI_n (by omega), stI_n (by omega)]; exact sH_in hc
    have hc0 := hc 0 (by omega)
    obtain ⟨g1, g2, g3, g4⟩ := we
    refine ⟨stI (stI (sH σ 39 w') 1 14 (nI ((N + 39) % 40))) 1 13 (nI k), by rw [stI_e, if_pos rfl], ?_, ?_, fun b h1 h2 => ?_, fun j h1 h2 => ?_, ⟨fun c q1 q7 i hi => ?_, ?_, ?_, ?_⟩, fun i hi => ?_, rfl⟩
    · rw [stI_e, if_pos rfl]
    · rw [stI_e, if_neg (by omega), stI_e, if_pos rfl]
    · rw [stI_n h1, stI_n h1]; exact sH_off (by omega)
    · rw [stI_e, if_neg h1, stI_e, if_neg h2, e1]
    · show (stI (stI (sH σ 39 w') 1 14 (nI ((N + 39) % 40))) 1 13 (nI k)).1 (39 + c) i = _
      rw [hc c (by omega)]; exact g1 c q1 q7 i hi
    · show (stI (stI (sH σ 39 w') 1 14 (nI ((N + 39) % 40))) 1 13 (nI k)).1 (39 + 0) 7 = _
      rw [hc0]; exact g2
    · show (stI (stI (sH σ 39 w') 1 14 (nI ((N + 39) % 40))) 1 13 (nI k)).1 (39 + 0) 8 = _
      rw [hc0]; exact g3
    · show (stI (stI (sH σ 39 w') 1 14 (nI ((N + 39) % 40))) 1 13 (nI k)).1 (39 + 0) 10 = _
      rw [hc0]; exact g4
    · show (stI (stI (sH σ 39 w') 1 14 (nI ((N + 39) % 40))) 1 13 (nI k)).1 (39 + 8) i = _
      rw [hc 8 (by omega)]; exact w8 i hi
  rw [e1, hN]
  by_cases q : N = 0
  · subst q
    rw [if_pos (show nI 0 ≤ 0 by decide)]
    exact fin _ (by decide)
  · rw [if_neg (show ¬ nI N ≤ 0 from nI_ge (a := 0) (b := N) (by omega) (by omega))]
    refine fin _ ?_
    obtain ⟨b, rfl⟩ : ∃ b, N = 1 + b := ⟨N - 1, by omega⟩
    rw [show (1 : Int32) = nI 1 from rfl, nI_sb, show (1 + b + 39) % 40 = b by omega]
theorem a_undo {I J : LH → Prop} {σ τ : LH} {S P n0 ne n E mm M k N : Nat} {go ex : Nat → Nat} {who : Option Nat} {L : Nat → Nat → Nat → Int32} {ln : Nat → Nat → Nat → Nat} {qn sn : Nat → Nat} (hI : Icl I) (hIp : Ipast I J) (hz : ∀ τ, I τ → I (stI τ 570 0 0)) (h : GI I J σ τ S P n0 ne n (E + 1) go ex who L ln qn sn mm M k N) (hmE : mm ≤ E) (hM : M ≤ 1000 * mm) : ∃ r σ' τ' mm' M' k' N', s_Main_undo σ = some (r, σ') ∧ s_Model_undo τ = some (r, τ') ∧ mm' ≤ E ∧ M' ≤ 1000 * mm' ∧ GI I J σ' τ' S P n0 ne n (E + 1) go ex who L ln qn sn mm' M' k' N' := by
  have h1 := h.z (hz τ h.2.2.2.2.1)
  obtain ⟨K, hH, hG, ⟨p1, p2, p3, p4, p5, p6⟩, hIt, hJt⟩ := h
  have hS8 : S ≤ 8 := K.1.2.1
  have hP8 : P ≤ 8 := K.1.2.2.2.1
  by_cases q : k = 0
  · subst q
    refine ⟨-1, σ, stI τ 570 0 0, mm, M, 0, N, ?_, ?_, hmE, hM, h1⟩
    · unfold s_Main_undo
      rw [p1, if_pos (show nI 0 < 1 by decide)]
      rfl
    · have e46 : (stI τ 570 0 0).1 570 46 = nI 0 := by rw [stI_570, if_neg (by omega)]; exact p3
      unfold s_Model_undo
      simp only [xl]
      rw [e46, if_pos (show nI 0 = 0 from rfl)]
  · obtain ⟨k, rfl⟩ : ∃ c, k = c + 1 := ⟨k - 1, by omega⟩
    obtain ⟨σ', a1, a2, a3, a4, a5, a6, a7, a8⟩ := e_undo p1 (by omega) p2 p5
    obtain ⟨τ', b1, b2, b3, b4, b5, b6⟩ := m_undo p3 (by omega)
    have lo : ∀ b, b = 5 ∨ b = 7 ∨ b = 9 ∨ b = 10 ∨ b = 34 → σ'.1 b = σ.1 b := fun b hb => a4 b (by omega) (by omega)
    have s0 := p6 0 (by omega)
    rw [show (N + 40 - 0) % 40 = N by omega] at s0
    have now : HL σ' S P n (E + 1) (gH σ' 39) (τ'.1 583) := s0.cp hS8 hP8 lo a6 a7 (fun j hj => by rw [b3 j hj]; exact congrArg (τ.1 590) (by omega))
    obtain ⟨mm', M', m1, m2, m3, m4⟩ := now
    have It : I τ' := by
      rw [b6]
      have i1 : I (stF (stI τ 570 0 0) 583 (τ'.1 583)) := hI.1 _ 583 _ (hz τ hIt) (Or.inl rfl)
      exact hIp.1 _ _ i1 (fun b q1 q2 => stI_n q1) (fun j q1 => by rw [stI_570, if_neg q1]) rfl
    have Jt : J σ' := by
      refine hIp.2.2 _ _ (hIp.2.1 σ (gH σ' 39) hJt) (fun b q1 q2 => ?_) (fun j q1 q2 => ?_) a8
      · by_cases q3 : b < 39 ∨ 48 ≤ b
        · rw [sH_off (by omega)]; exact a4 b q1 q3
        · obtain ⟨c, rfl⟩ : ∃ c, b = 39 + c := ⟨b - 39, by omega⟩
          rw [sH_in (by omega)]
          rfl
      · rw [sH_lo (by omega)]; exact a5 j q1 q2
    refine ⟨nI k, σ', τ', mm', M', k, (N + 39) % 40, a1, b1, by omega, m2, K.cg (fun b hb => a4 b (by omega) (by omega)) ⟨fun b hb => b4 b (by omega) (by omega), fun j hj => b5 j (by omega) (by omega)⟩, m3, m4, ⟨a2, a3, b2, by omega, Nat.mod_lt _ (by omega), fun i hi => ?_⟩, It, Jt⟩
    have old := p6 (i + 1) (by omega)
    have ei : ((N + 39) % 40 + 40 - i) % 40 = (N + 40 - (i + 1)) % 40 := by omega
    rw [ei]
    generalize (N + 40 - (i + 1)) % 40 = x at old ⊢
    have ex : ∀ c, c < 9 → gH σ' (210 + 9 * x) c = gH σ (210 + 9 * x) c := fun c hc => a4 (210 + 9 * x + c) (by omega) (by omega)
    have e90 : τ'.1 590 = τ.1 590 := b4 590 (by omega) (by omega)
    exact old.cp hS8 hP8 lo ⟨fun c _ _ j _ => by rw [ex c (by omega)], by rw [ex 0 (by omega)], by rw [ex 0 (by omega)], by rw [ex 0 (by omega)]⟩ (fun j _ => by rw [ex 8 (by omega)]) (fun j hj => by rw [e90]; exact congrArg (τ.1 590) (by omega))
