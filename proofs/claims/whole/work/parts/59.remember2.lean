/-! the class: what is remembered -/
theorem stI_e {τ : LH} {a i j : Nat} {v : Int32} : (stI τ a j v).1 a i = if i = j then v else τ.1 a i := by
  show (stF τ a (upd (τ.1 a) j v)).1 a i = _
  rw [stF_s]
  rfl
theorem e_remember {σ : LH} {k N : Nat} (hk : σ.1 1 13 = nI k) (hk1 : k ≤ 40) (hN : σ.1 1 14 = nI N) (hN1 : N < 40) : ∃ σ', s_Main_remember σ = some σ' ∧ σ'.1 1 13 = nI (min (k + 1) 40) ∧ σ'.1 1 14 = nI ((N + 1) % 40) ∧ (∀ b, b ≠ 1 → (b < 210 + 9 * ((N + 1) % 40) ∨ 210 + 9 * ((N + 1) % 40) + 9 ≤ b) → σ'.1 b = σ.1 b) ∧ (∀ j, j ≠ 13 → j ≠ 14 → σ'.1 1 j = σ.1 1 j) ∧ WE (gH σ 39) (gH σ' (210 + 9 * ((N + 1) % 40))) ∧ (∀ i, i < 240 → gH σ' (210 + 9 * ((N + 1) % 40)) 8 i = gH σ 39 8 i) ∧ σ'.2 = σ.2 := by
  have hs : s_Main_remember σ = s_Main_remember_25 (nI ((N + 1) % 40)) σ := by
    unfold s_Main_remember
    rw [hN, nI_1]
    by_cases q : N = 39
    · subst q
      rw [if_pos (show (40 : Int32) ≤ nI (39 + 1) from Int32.le_refl _)]
      rfl
    · rw [if_neg (show ¬ (40 : Int32) ≤ nI (N + 1) from nI_ge (b := 40) (by omega) (by omega)), show (N + 1) % 40 = N + 1 by omega]
  have hq : (N + 1) % 40 < 40 := Nat.mod_lt _ (by omega)
  rw [hs]
  generalize (N + 1) % 40 = Q at hq ⊢
  unfold s_Main_remember_25
  simp only [xl]
  rw [stI_e, if_pos rfl, if_neg (nI_pos (n := Q) (by omega)), if_neg (show ¬ (40 : Int32) ≤ nI Q from nI_ge (b := 40) hq (by omega)), if_pos (ib_nI hq (by omega)), nI_clamp (show Q < 2 ^ 31 by omega)]
  generalize hh : 210 + 9 * Q = h
  have h48 : 210 ≤ h := by omega
  have cp := h_copyFrom (σ := stI σ 1 14 (nI Q)) (a := h) (b := 39) (x := gH (stI σ 1 14 (nI Q)) h) (y := gH σ 39) (by omega) (fun c hc => stI_n (by omega))
  rw [sH_gH] at cp
  rw [cp]
  simp only [xb1]
  obtain ⟨we, w8⟩ := wCop_e (x := gH (stI σ 1 14 (nI Q)) h) (y := gH σ 39)
  generalize u1 (wBeg (gH (stI σ 1 14 (nI Q)) h) (gH σ 39)) 8 (va_cpy (gH σ 39 8) (gH (stI σ 1 14 (nI Q)) h 8) 0 0 240) = w' at we w8 ⊢
  have e1 : (sH (stI σ 1 14 (nI Q)) h w').1 1 = (stI σ 1 14 (nI Q)).1 1 := sH_lo (by omega)
  have eg : ∀ (σ2 : LH), (∀ c, c < 9 → σ2.1 (h + c) = w' c) → WE (gH σ 39) (gH σ2 h) ∧ ∀ i, i < 240 → gH σ2 h 8 i = gH σ 39 8 i := fun σ2 hc => by
    obtain ⟨g1, g2, g3, g4⟩ := we
    have e0 : σ2.1 h = w' 0 := hc 0 (by omega)
    refine ⟨⟨fun c h1 h7 i hi => ?_, ?_, ?_, ?_⟩, fun i hi => ?_⟩
    · show σ2.1 (h + c) i = _
      rw [hc c (by omega)]; exact g1 c h1 h7 i hi
    · show σ2.1 h 7 = _
      rw [e0]; exact g2
    · show σ2.1 h 8 = _
      rw [e0]; exact g3
    · show σ2.1 h 10 = _
      rw [e0]; exact g4
    · show σ2.1 (h + 8) i = _
      rw [hc 8 (by omega)]; exact w8 i hi
  have e13 : (stI σ 1 14 (nI Q)).1 1 13 = nI k := by rw [stI_e, if_neg (by omega)]; exact hk
  unfold s_Main_remember_63 s_Main_remember_82
  simp only [xl]
  rw [e1, e13]
  by_cases q : k = 40
  · subst q
    rw [if_pos (show (40 : Int32) ≤ nI 40 from Int32.le_refl _)]
    obtain ⟨g1, g2⟩ := eg (sH (stI σ 1 14 (nI Q)) h w') (fun c hc => sH_in hc)
    refine ⟨_, rfl, ?_, ?_, fun b hb ho => ?_, fun j h13 h14 => ?_, g1, g2, rfl⟩
    · rw [e1, e13]; rfl
    · rw [e1, stI_e, if_pos rfl]
    · rw [sH_off ho, stI_n hb]
    · rw [e1, stI_e, if_neg h14]
  · rw [if_neg (show ¬ (40 : Int32) ≤ nI k from nI_ge (b := 40) (by omega) (by omega)), nI_1]
    obtain ⟨g1, g2⟩ := eg (stI (sH (stI σ 1 14 (nI Q)) h w') 1 13 (nI (k + 1))) (fun c hc => by rw [stI_n (by omega)]; exact sH_in hc)
    refine ⟨_, rfl, ?_, ?_, fun b hb ho => ?_, fun j h13 h14 => ?_, g1, g2, rfl⟩
    · rw [stI_e, if_pos rfl, show min (k + 1) 40 = k + 1 by omega]
    · rw [stI_e, if_neg (by omega), e1, stI_e, if_pos rfl]
    · rw [stI_n hb, sH_off ho, stI_n hb]
    · rw [stI_e, if_neg h13, e1, stI_e, if_neg h14]
