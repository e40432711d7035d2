/-! small acts: end, image, back -/
section
variable {V : LH → LH → Prop} {σ τ σ' τ' : LH} {S P F E n0 n cnt mm M k N c : Nat} {wn mn xn qn sn go : Nat → Nat} {held : Option Nat} {Bt : Nat → Nat → Nat} {le : Nat → Nat} {CLs : Nat → CL} {ln : Nat → Nat → Nat → Nat}
theorem OT.tp (h : OT V σ τ S P F E n cnt wn mn xn qn held Bt le CLs) (hV : Vcl V) (ec : ∀ b, b ≠ 2 → b ≠ 3 → σ'.1 b = σ.1 b) (em : ∀ b, b ≠ 570 → b ≠ 571 → τ'.1 b = τ.1 b) (em1 : ∀ j, j ≠ 0 → j ≠ 6 → τ'.1 570 j = τ.1 570 j) (t : TPE σ' τ') : OT V σ' τ' S P F E n cnt wn mn xn qn held Bt le CLs := by
  obtain ⟨o1, o2, o3, o4, o5, o6, o7, ⟨u, u1, u2, u3⟩, o9, o10, o11⟩ := h
  refine ⟨o1, ?_, o3, ?_, t, ⟨?_, ?_, ?_⟩, ?_, ⟨u, u1, ?_, ?_⟩, ?_, ?_, ?_⟩
  · rw [ec 4 (by omega) (by omega)]; exact o2
  · rw [ec 6 (by omega) (by omega), em 575 (by omega) (by omega)]; exact o4
  · rw [ec 1 (by omega) (by omega)]; exact o6.1
  · rw [em1 7 (by omega) (by omega)]; exact o6.2.1
  · intro t ht
    have hc4 : cnt ≤ 4 := o1.2.2.2.1
    have z := o6.2.2 t ht
    unfold TasteC at z ⊢
    rw [ec (195 + 3 * t) (by omega) (by omega), ec (195 + 3 * t + 1) (by omega) (by omega)]
    exact z
  · rw [ec 1 (by omega) (by omega)]; exact o7
  · rw [ec 1 (by omega) (by omega)]; exact u2
  · rw [em1 36 (by omega) (by omega)]; exact u3
  · unfold TLD at o9 ⊢
    rw [ec 81 (by omega) (by omega), ec 83 (by omega) (by omega), ec 84 (by omega) (by omega), em 595 (by omega) (by omega), em 596 (by omega) (by omega), em1 57 (by omega) (by omega)]
    exact o9
  · unfold PIC at o10 ⊢
    rw [ec 1 (by omega) (by omega), em1 59 (by omega) (by omega), em 597 (by omega) (by omega)]
    rcases o10 with z | ⟨z1, z2, z3⟩
    · exact Or.inl z
    · refine Or.inr ⟨z1, z2, ?_⟩
      have eg : ∀ c, c < 9 → gH σ' 49 c = gH σ 49 c := fun c hc => ec (49 + c) (by omega) (by omega)
      exact z3.cp o1.1 o1.2.1 (fun b hb => ec b (by omega) (by omega)) ⟨fun c _ _ j _ => by rw [eg c (by omega)], by rw [eg 0 (by omega)], by rw [eg 0 (by omega)], by rw [eg 0 (by omega)]⟩ (fun j _ => by rw [eg 8 (by omega)]) (fun _ _ => rfl)
  · refine hV σ σ' τ τ' o11 (fun b j z => congrFun (ec b (fun y => z (by unfold vC; omega)) (fun y => z (by unfold vC; omega))) j) (fun b j z => ?_)
    have z1 : ¬ (b = 571 ∨ (b = 570 ∧ (j = 0 ∨ j = 6))) := fun y => z (by unfold vM nwM scM wX; omega)
    by_cases e : b = 570
    · subst e
      exact em1 j (by omega) (by omega)
    · exact congrFun (em b e (by omega)) j
theorem w_end (hV : Vcl V) (h : NV V c σ τ) (x : Int32) : AL V c (s_Main_end x σ) (s_Model_end x τ) := by
  obtain ⟨S, P, F, E, n0, n, cnt, mm, M, k, N, wn, mn, xn, qn, sn, go, held, Bt, le, CLs, ln, h, hn⟩ := h
  obtain ⟨T, t1, t2, t3, t4⟩ := h.2.2.2.2.2.2.2.1
  have e6 : (stI τ 570 0 0).1 570 6 = nI T := by rw [stI_570, if_neg (show ¬ 6 = 0 by omega)]; exact t2
  have no : AL V c (some (0, σ)) (some (0, stI τ 570 0 0)) := h.no hV hn 0 rfl rfl
  unfold s_Main_end s_Model_end s_Main_end_15 s_Model_end_17
  simp only [xl]
  rw [t1, e6]
  by_cases q1 : x < 0
  · rw [if_pos q1, if_pos q1]
    exact no
  · rw [if_neg q1, if_neg q1]
    by_cases q2 : x ≤ nI T
    · rw [if_pos q2, if_pos q2]
      obtain ⟨v, rfl, -, hv⟩ := nI_btw (a := 0) (b := T) (by omega) (by omega) (Int32.not_lt.mp q1) q2
      refine h.m (σ' := stI σ 2 1 (nI v)) (τ' := stI (stI τ 570 0 0) 570 6 (nI v)) hn (FR.I (by unfold mvC; omega)) ((FT.I (by unfold mvM; omega)).tr (FT.I (by unfold mvM; omega))) rfl (h.2.2.2.tp hV (fun b h1 _ => stI_n h1) (fun b h1 _ => by rw [stI_n h1, stI_n h1]) (fun j h1 h2 => by rw [stI_570, if_neg h2, stI_570, if_neg h1]) ?_) rfl rfl
      refine ⟨v, ?_, ?_, by omega, fun i hi => ?_⟩
      · rw [stI_e, if_pos rfl]
      · rw [stI_570, if_pos rfl]
      · rw [stI_n (b := 3) (by omega), stI_n (b := 571) (by omega), stI_n (b := 571) (by omega)]
        exact t4 i (by omega)
    · rw [if_neg q2, if_neg q2]
      exact no
theorem OT.pc (h : OT V σ τ S P F E n cnt wn mn xn qn held Bt le CLs) (hV : Vcl V) (ec : ∀ b, b ≠ 1 → (b < 49 ∨ 58 ≤ b) → σ'.1 b = σ.1 b) (ec1 : ∀ j, j ≠ 16 → σ'.1 1 j = σ.1 1 j) (em : ∀ b, b ≠ 570 → b ≠ 597 → τ'.1 b = τ.1 b) (em1 : ∀ j, j ≠ 0 → j ≠ 59 → τ'.1 570 j = τ.1 570 j) (t : PIC σ' τ' S P n (E + 1)) : OT V σ' τ' S P F E n cnt wn mn xn qn held Bt le CLs := by
  obtain ⟨o1, o2, o3, o4, o5, o6, o7, ⟨u, u1, u2, u3⟩, o9, o10, o11⟩ := h
  refine ⟨o1, ?_, o3, ?_, ?_, ⟨?_, ?_, ?_⟩, ?_, ⟨u, u1, ?_, ?_⟩, ?_, t, ?_⟩
  · rw [ec 4 (by omega) (by omega)]; exact o2
  · rw [ec 6 (by omega) (by omega), em 575 (by omega) (by omega)]; exact o4
  · unfold TPE at o5 ⊢
    rw [ec 2 (by omega) (by omega), ec 3 (by omega) (by omega), em 571 (by omega) (by omega), em1 6 (by omega) (by omega)]
    exact o5
  · rw [ec1 6 (by omega)]; exact o6.1
  · rw [em1 7 (by omega) (by omega)]; exact o6.2.1
  · intro t ht
    have hc4 : cnt ≤ 4 := o1.2.2.2.1
    have z := o6.2.2 t ht
    unfold TasteC at z ⊢
    rw [ec (195 + 3 * t) (by omega) (by omega), ec (195 + 3 * t + 1) (by omega) (by omega)]
    exact z
  · rw [ec1 7 (by omega)]; exact o7
  · rw [ec1 8 (by omega)]; exact u2
  · rw [em1 36 (by omega) (by omega)]; exact u3
  · unfold TLD at o9 ⊢
    rw [ec 81 (by omega) (by omega), ec 83 (by omega) (by omega), ec 84 (by omega) (by omega), em 595 (by omega) (by omega), em 596 (by omega) (by omega), em1 57 (by omega) (by omega)]
    exact o9
  · refine hV σ σ' τ τ' o11 (fun b j z => congrFun (ec b (fun y => z (by unfold vC; omega)) (Decidable.byContradiction fun y => z (by unfold vC; omega))) j) (fun b j z => ?_)
    have z1 : ¬ (b = 597 ∨ (b = 570 ∧ (j = 0 ∨ j = 59))) := fun y => z (by unfold vM nwM scM wX; omega)
    by_cases e : b = 570
    · subst e
      exact em1 j (by omega) (by omega)
    · exact congrFun (em b e (by omega)) j
theorem w_image (hV : Vcl V) (h : NV V c σ τ) : AL V c (s_Main_image σ) (s_Model_image τ) := by
  obtain ⟨S, P, F, E, n0, n, cnt, mm, M, k, N, wn, mn, xn, qn, sn, go, held, Bt, le, CLs, ln, h, hn⟩ := h
  have X0 := h.1.z MI.dep
  have hmE := h.1.mE
  have eC : s_Main_image σ = if P = 0 then some (-1, σ) else xb1 (s_Hall_copyFrom 49 39 σ) (fun σ6 => some ((stI σ6 1 16 1).1 39 7, stI σ6 1 16 1)) := by
    unfold s_Main_image
    rw [g_hasRoom h.1]
    simp only [xb2, xl, ite01]
  have eM : s_Model_image τ = if P = 0 then some (-1, stI τ 570 0 0) else xb1 (s_Model_copy 583 597 (stI τ 570 0 0)) (fun σ4 => some ((stI σ4 570 59 1).1 583 (Int32.toNatClampNeg 48), stI σ4 570 59 1)) := by
    unfold s_Model_image
    simp only [xl, m_noRoom X0, if_pos (show ib 48 290 by decide)]
  by_cases q : P = 0
  · rw [if_pos q] at eC eM
    exact h.no hV hn _ eC eM
  · rw [if_neg q] at eC eM
    have cp := h_copyFrom (σ := σ) (a := 49) (b := 39) (x := gH σ 49) (y := gH σ 39) (by omega) (fun c hc => rfl)
    rw [sH_gH] at cp
    have g49 : (stI τ 570 0 0).1 583 49 = nI (min M 60) := by rw [stI_n (by omega)]; exact h.2.1.2.1
    have mc := m_copy (a := 583) (b := 597) (τ := stI τ 570 0 0) (by omega) g49 (by omega)
    rw [cp] at eC
    rw [mc] at eM
    simp only [xb1] at eC eM
    obtain ⟨we, w8⟩ := wCop_e (x := gH σ 49) (y := gH σ 39)
    generalize u1 (wBeg (gH σ 49) (gH σ 39)) 8 (va_cpy (gH σ 39 8) (gH σ 49 8) 0 0 240) = w' at *
    have ec : ∀ b, b ≠ 1 → (b < 49 ∨ 58 ≤ b) → (stI (sH σ 49 w') 1 16 1).1 b = σ.1 b := fun b h1 h2 => by rw [stI_n h1, sH_off (by omega)]
    have ec1 : ∀ j, j ≠ 16 → (stI (sH σ 49 w') 1 16 1).1 1 j = σ.1 1 j := fun j h1 => by rw [stI_e, if_neg h1, sH_lo (by omega)]
    have e97 : (stI τ 570 0 0).1 583 = τ.1 583 := stI_n (by omega)
    obtain ⟨A, hA⟩ : ∃ A, A = cpy (50 + 4 * min M 60) ((stI τ 570 0 0).1 583) ((stI τ 570 0 0).1 597) := ⟨_, rfl⟩
    rw [← hA] at eM
    have em : ∀ b, b ≠ 570 → b ≠ 597 → (stI (stF (stI τ 570 0 0) 597 A) 570 59 1).1 b = τ.1 b := fun b h1 h2 => by rw [stI_n h1, stF_n h2, stI_n h1]
    have em1 : ∀ j, j ≠ 0 → j ≠ 59 → (stI (stF (stI τ 570 0 0) 597 A) 570 59 1).1 570 j = τ.1 570 j := fun j h1 h2 => by rw [stI_570, if_neg h2, stF_n (by omega), stI_570, if_neg h1]
    have hAj : ∀ j, j < 50 + 4 * min M 60 → A j = τ.1 583 j := fun j hj => by
      rw [hA]; unfold cpy; rw [if_pos hj, e97]
    rw [ec 39 (by omega) (by omega), h.1.cm] at eC
    rw [em 583 (by omega) (by omega), show τ.1 583 (Int32.toNatClampNeg 48) = nI mm from h.1.tm] at eM
    refine h.m (σ' := stI (sH σ 49 w') 1 16 1) (τ' := stI (stF (stI τ 570 0 0) 597 A) 570 59 1) hn ⟨fun b j q => ?_, rfl⟩ ⟨fun b j q => ?_, fun _ _ => rfl, rfl⟩ rfl (h.2.2.2.pc hV ec ec1 em em1 ?_) eC eM
    · by_cases e : b = 1
      · subst e
        exact ec1 j (fun z => q (by unfold mvC; omega))
      · exact congrFun (ec b e (Decidable.byContradiction fun z => q (by unfold mvC; omega))) j
    · by_cases e : b = 570
      · subst e
        exact em1 j (fun z => q (by unfold mvM; omega)) (fun z => q (by unfold mvM; omega))
      · exact congrFun (em b e (fun z => q (by unfold mvM; omega))) j
    · have e9 : ∀ c, c < 9 → gH (stI (sH σ 49 w') 1 16 1) 49 c = w' c := fun c hc => by
        show (stI (sH σ 49 w') 1 16 1).1 (49 + c) = _
        rw [stI_n (by omega), sH_in hc]
      have e0 := e9 0 (by omega)
      refine Or.inr ⟨by rw [stI_e, if_pos rfl], by rw [stI_570, if_pos rfl], mm, M, by omega, h.1.M1, ?_, ?_⟩
      · rw [stI_n (by omega), stF_s]
        exact (h.1.2.2.1.s (fun b hb => ec b (by omega) (by omega))).cp ⟨fun c q1 q7 j hj => by rw [e9 c (by omega)]; exact we.1 c q1 q7 j hj, by rw [e0]; exact we.2.1, by rw [e0]; exact we.2.2.1, by rw [e0]; exact we.2.2.2⟩ h.1.S8 h.1.P8 (fun j hj => hAj j (by omega))
      · rw [stI_n (by omega), stF_s]
        exact h.2.1.cp (by rw [e0]; exact we.2.2.1) (fun i hi => by rw [e9 8 (by omega)]; exact w8 i hi) (fun j _ hj => hAj j hj)
theorem w_back (hV : Vcl V) (h : NV V c σ τ) : AL V c (s_Main_back σ) (s_Model_back τ) := by
  obtain ⟨S, P, F, E, n0, n, cnt, mm, M, k, N, wn, mn, xn, qn, sn, go, held, Bt, le, CLs, ln, h, hn⟩ := h
  have e59 : (stI τ 570 0 0).1 570 59 = τ.1 570 59 := by rw [stI_570, if_neg (show ¬ 59 = 0 by omega)]
  unfold s_Main_back s_Model_back
  simp only [xl, if_pos (show ib 48 290 by decide)]
  rw [e59]
  rcases h.2.2.2.2.2.2.2.2.2.2.2.2.1 with ⟨z1, z2⟩ | ⟨z1, z2, mm', M', m1, m2, m3, m4⟩
  · rw [if_pos z1, if_pos z2]
    exact h.no hV hn _ rfl rfl
  · rw [z1, z2, if_neg (show ¬ (1 : Int32) = 0 by decide), if_neg (show ¬ (1 : Int32) = 0 by decide)]
    have cp := h_copyFrom (σ := σ) (a := 39) (b := 49) (x := gH σ 39) (y := gH σ 49) (by omega) (fun c hc => rfl)
    rw [sH_gH] at cp
    have g49 : (stI τ 570 0 0).1 597 49 = nI (min M' 60) := by rw [stI_n (by omega)]; exact m4.2.1
    have mc := m_copy (a := 597) (b := 583) (τ := stI τ 570 0 0) (by omega) g49 (by omega)
    rw [cp, mc]
    simp only [xb1]
    obtain ⟨we, w8⟩ := wCop_e (x := gH σ 39) (y := gH σ 49)
    generalize u1 (wBeg (gH σ 39) (gH σ 49)) 8 (va_cpy (gH σ 49 8) (gH σ 39 8) 0 0 240) = w' at we w8 ⊢
    have e97 : (stI τ 570 0 0).1 597 = τ.1 597 := stI_n (by omega)
    obtain ⟨A, hA⟩ : ∃ A, A = cpy (50 + 4 * min M' 60) ((stI τ 570 0 0).1 597) ((stI τ 570 0 0).1 583) := ⟨_, rfl⟩
    rw [← hA]
    have hAj : ∀ j, j < 50 + 4 * min M' 60 → A j = τ.1 597 j := fun j hj => by
      rw [hA]; unfold cpy; rw [if_pos hj, e97]
    have hH : HR σ S P n mm' M' w' A := m3.cp we h.1.S8 h.1.P8 (fun j hj => hAj j (by omega))
    have hG : Lg w' A M' := m4.cp we.2.2.1 w8 (fun j _ hj => hAj j hj)
    have gz := h.gi.z (I0.z MI.dep h.gi.2.2.2.2.1)
    have gs := gz.set (I0.cl MI.dep) (I0.past MI.dep) hH hG
    have cm : (stI (sH σ 39 w') 1 13 0).1 39 7 = nI mm' := by
      rw [stI_n (by omega), sH_in0]
      exact hH.1.m.trans hH.2.1.1.2.1
    have tm : (stI (stF (stI τ 570 0 0) 583 A) 570 46 0).1 583 (Int32.toNatClampNeg 48) = nI mm' := by
      rw [stI_n (by omega), stF_s]
      exact hH.2.1.1.2.1
    rw [cm, tm]
    obtain ⟨K, s2, s3, ⟨p1, p2, p3, p4, p5, p6⟩, sI, sJ⟩ := gs
    have ec : ∀ b, b ≠ 1 → (stI (sH σ 39 w') 1 13 0).1 b = (sH σ 39 w').1 b := fun b hb => stI_n hb
    have em : ∀ b, b ≠ 570 → (stI (stF (stI τ 570 0 0) 583 A) 570 46 0).1 b = (stF (stI τ 570 0 0) 583 A).1 b := fun b hb => stI_n hb
    have em1 : ∀ j, j ≠ 46 → (stI (stF (stI τ 570 0 0) 583 A) 570 46 0).1 570 j = (stF (stI τ 570 0 0) 583 A).1 570 j := fun j hj => by rw [stI_570, if_neg hj]
    refine h.ac (σ' := stI (sH σ 39 w') 1 13 0) (τ' := stI (stF (stI τ 570 0 0) 583 A) 570 46 0) (mm' := mm') (M' := M') (k' := 0) (N' := N) hV hn rfl rfl ⟨K.cg (fun b hb => ec b (by omega)) ⟨fun b hb => em b (by omega), fun j hj => em1 j (by omega)⟩, ?_, ?_, ⟨?_, ?_, ?_, by omega, p5, fun i hi => by omega⟩, ?_, ?_⟩ (by omega) m2
    · have eg : ∀ c, c < 9 → gH (stI (sH σ 39 w') 1 13 0) 39 c = gH (sH σ 39 w') 39 c := fun c hc => ec (39 + c) (by omega)
      rw [em 583 (by omega)]
      exact (s2.s (fun b hb => ec b (by omega))).cp ⟨fun c _ _ j _ => by rw [eg c (by omega)], by rw [eg 0 (by omega)], by rw [eg 0 (by omega)], by rw [eg 0 (by omega)]⟩ h.1.S8 h.1.P8 (fun _ _ => rfl)
    · have e0 : gH (stI (sH σ 39 w') 1 13 0) 39 0 = gH (sH σ 39 w') 39 0 := ec (39 + 0) (by omega)
      have e8 : gH (stI (sH σ 39 w') 1 13 0) 39 8 = gH (sH σ 39 w') 39 8 := ec (39 + 8) (by omega)
      rw [em 583 (by omega)]
      exact s3.cp (by rw [e0]) (fun i _ => by rw [e8]) (fun _ _ _ => rfl)
    · rw [stI_e, if_pos rfl]; rfl
    · rw [stI_e, if_neg (show ¬ 14 = 13 by omega)]; exact p2
    · rw [stI_570, if_pos rfl]; rfl
    · exact (I0.past (σ0 := σ) MI.dep).1 _ _ sI (fun b q1 _ => em b q1) (fun j q => em1 j q) rfl
    · exact J0.cl.2 _ _ sJ (fun b q1 _ => ec b q1) (fun j q1 _ => by rw [stI_e, if_neg q1]) rfl
end
