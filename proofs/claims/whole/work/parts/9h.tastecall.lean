/-! taste, tells -/
section
variable {V : LH → LH → Prop} {σ τ σ' τ' : LH} {S P F E n0 n cnt mm M k N c c' eN : Nat} {wn mn xn qn sn go : Nat → Nat} {held held' : Option Nat} {Bt : Nat → Nat → Nat} {le : Nat → Nat} {CLs : Nat → CL} {ln : Nat → Nat → Nat → Nat} {w : Wd} {A : Nat → Int32} {f g : Option (Int32 × LH)}
theorem NVp.b1 (h : NVp V σ τ S P F E n0 n cnt mm M k N wn mn xn qn sn go held Bt le CLs ln) : σ.1 33 5 = nI n := h.1.1.1.2.2.2.2.2.2.2.2.2
theorem NVp.tst (h : NVp V σ τ S P F E n0 n cnt mm M k N wn mn xn qn sn go held Bt le CLs ln) (hr : Vren V) (hn1 : n + 1 < 2 ^ 20) (hh : ∀ t, held' = some t → t < cnt) {hd sc : Nat} (hH : HT (stI σ 1 7 (oI held')) hd sc held' CLs) (hsc : ∃ t, t < 5 ∧ sc = 195 + 3 * t + 2) : ∃ σ', s_Likings_renew hd (stI σ 1 7 (oI held')) = some σ' ∧ ∃ ln', NVp V σ' (stI (stI τ 570 0 0) 570 35 (oI held')) S P F E n0 (n + 1) cnt mm M k N wn mn xn qn sn go held' Bt le CLs ln' := by
  obtain ⟨t0, ht0, hsc⟩ := hsc
  have hE := h.1.e100
  have hcnt : cnt ≤ 4 := h.2.2.2.1.2.2.2.1
  have mn0 : ∀ s, s < S → mn s < 2 ^ 20 := fun s hs => by have := (h.2.2.2.1.2.2.2.2.1 s hs).2.1; omega
  have e0 : ∀ b, b ≠ 1 → (stI σ 1 7 (oI held')).1 b = σ.1 b := fun b hb => stI_n hb
  have R : RC (stI σ 1 7 (oI held')) S P F wn mn xn qn := by
    have R0 := h.rc
    unfold RC at R0 ⊢
    rw [e0 4 (by omega), e0 5 (by omega), e0 6 (by omega), e0 7 (by omega), e0 9 (by omega)]
    exact R0
  obtain ⟨σ', r1, r2, r3, r4⟩ := c_renew (σ := stI σ 1 7 (oI held')) (hd := hd) (sc := sc) mn0 hE (by rw [e0 4 (by omega)]; exact h.1.cE) R hH (fun j hj => by rw [e0 35 (by omega)]; exact h.1.2.1.1 j hj)
  refine ⟨σ', r1, h.tas (held' := held') hr hn1 hh (fun b q1 q2 q3 => ?_) (fun j hj => ?_) (fun t ht => ⟨?_, ?_⟩) ?_ ?_ r4 (fun b hb => by rw [stI_n hb, stI_n hb]) (fun j q1 q2 => by rw [stI_570, if_neg q2, stI_570, if_neg q1]) (by rw [stI_570, if_pos rfl]) rfl⟩
  · funext j
    rw [r2.1 b j (by unfold wRe; omega), e0 b q2]
  · rw [r2.1 1 j (by unfold wRe; omega), stI_e, if_neg hj]
  · funext j
    rw [r2.1 _ j (by unfold wRe; omega), e0 _ (by omega)]
  · funext j
    rw [r2.1 _ j (by unfold wRe; omega), e0 _ (by omega)]
  · rw [r2.1 1 7 (by unfold wRe; omega), stI_e, if_pos rfl]
  · rw [r3, e0 33 (by omega), h.b1, nI_1]
theorem m1_pos {x : Int32} (h1 : ¬ x < -1) (h2 : x ≠ -1) : 0 ≤ x := by
  rw [Int32.lt_iff_toInt_lt, show (-1 : Int32).toInt = -1 by decide] at h1
  rw [Int32.le_iff_toInt_le, show (0 : Int32).toInt = 0 by decide]
  have : x.toInt ≠ -1 := fun z => h2 (Int32.toInt_inj.mp (z.trans (by decide)))
  omega
theorem w_taste (hV : Vcl V) (hr : Vren V) (hc : c + 1 < 2 ^ 20) (h : NV V c σ τ) (x : Int32) : AL V (c + 1) (s_Main_taste x σ) (s_Model_taste x τ) := by
  obtain ⟨S, P, F, E, n0, n, cnt, mm, M, k, N, wn, mn, xn, qn, sn, go, held, Bt, le, CLs, ln, h, hn⟩ := h
  obtain ⟨o1, o2, o3, o4, o5, ⟨c1, c2, c3⟩, o7, -⟩ := id h.2.2.2
  have hcnt : cnt ≤ 4 := o1.2.2.2.1
  have e7 : (stI τ 570 0 0).1 570 7 = nI cnt := by rw [stI_570, if_neg (show ¬ 7 = 0 by omega)]; exact c2
  have eM : s_Model_taste x τ = if x = -1 then some (1, stI (stI τ 570 0 0) 570 35 x) else if 0 ≤ x ∧ x ≤ nI cnt - 1 then some (1, stI (stI τ 570 0 0) 570 35 x) else some (0, stI τ 570 0 0) := by
    unfold s_Model_taste s_Model_taste_28
    simp only [xl]
    rw [e7]
    by_cases q0 : x = -1
    · rw [if_pos q0, if_pos q0]
    · rw [if_neg q0, if_neg q0, m_in0]
      simp only [xb2]
      by_cases q1 : 0 ≤ x ∧ x ≤ nI cnt - 1
      · rw [if_pos q1, if_pos q1, if_neg (show ¬ (1 : Int32) = 0 by decide)]
      · rw [if_neg q1, if_neg q1, if_pos rfl]
  have eC : s_Main_taste x σ = if ¬ x < -1 ∧ x < nI cnt then xb1 (s_Main_renewLikings (stI σ 1 7 x)) (fun σ5 => some (1, σ5)) else some (0, σ) := by
    unfold s_Main_taste s_Main_taste_13
    simp only [xl]
    rw [c1]
    by_cases q0 : x < -1
    · rw [if_pos q0, if_neg (fun z => z.1 q0)]
    · rw [if_neg q0]
      by_cases q1 : x < nI cnt
      · rw [if_pos q1, if_pos ⟨q0, q1⟩]
      · rw [if_neg q1, if_neg (fun z => q1 z.2)]
  by_cases q0 : x = -1
  · subst q0
    rw [if_pos ⟨by decide, (show (-1 : Int32) < nI cnt from Int32.lt_of_lt_of_le (b := 0) (by decide) (Int32.not_lt.mp (nI_pos (by omega))))⟩] at eC
    rw [if_pos rfl] at eM
    obtain ⟨σ', r1, ln', r2⟩ := h.tst (held' := none) (hd := 0) (sc := 197) hr (by omega) (fun t ht => by cases ht) ⟨by omega, by omega, Or.inl ⟨rfl, rfl⟩⟩ ⟨0, by omega, by omega⟩
    have e1 : s_Main_renewLikings (stI σ 1 7 (-1)) = some σ' := by
      unfold s_Main_renewLikings s_Main_renewLikings_34 s_Main_renewLikings_35 s_Main_renewLikings_57
      rw [stI_e, if_pos rfl, if_pos (show (-1 : Int32) < 0 by decide), if_pos rfl]
      rw [show s_Likings_renew 0 (stI σ 1 7 (-1)) = some σ' from r1]
      rfl
    rw [e1] at eC
    simp only [xb1] at eC
    exact ⟨1, σ', _, eC, eM, S, P, F, E, n0, n + 1, cnt, mm, M, k, N, wn, mn, xn, qn, sn, go, none, Bt, le, CLs, ln', r2, by omega⟩
  · rw [if_neg q0] at eM
    have cond : (0 ≤ x ∧ x ≤ nI cnt - 1) ↔ (¬ x < -1 ∧ x < nI cnt) := by
      rcases Nat.eq_zero_or_pos cnt with z | z
      · subst z
        constructor
        · intro y
          exact absurd (Int32.le_trans y.1 y.2) (by decide)
        · intro y
          exact absurd (Int32.lt_of_le_of_lt (m1_pos y.1 q0) y.2) (by decide)
      · obtain ⟨k', rfl⟩ : ∃ k', cnt = k' + 1 := ⟨cnt - 1, by omega⟩
        rw [nI_pred]
        constructor
        · intro y
          exact ⟨fun y2 => absurd (Int32.lt_of_le_of_lt y.1 y2) (by decide), Int32.lt_of_le_of_lt y.2 (nI_lt (by omega) (by omega))⟩
        · intro y
          have x0 := m1_pos y.1 q0
          obtain ⟨v, hv, rfl⟩ := nI_ofx (by omega) x0 y.2
          exact ⟨x0, nI_le (by omega) (by omega)⟩
    by_cases q2 : ¬ x < -1 ∧ x < nI cnt
    · rw [if_pos q2] at eC
      rw [if_pos (cond.mpr q2)] at eM
      obtain ⟨v, hv, rfl⟩ := nI_ofx (by omega) (m1_pos q2.1 q0) q2.2
      have hT : TasteC (stI σ 1 7 (nI v)) (195 + 3 * v) (CLs v) := by
        have z := c3 v hv
        unfold TasteC at z ⊢
        rw [stI_n (by omega), stI_n (by omega)]
        exact z
      obtain ⟨σ', r1, ln', r2⟩ := h.tst (held' := some v) (hd := 195 + 3 * v) (sc := 195 + 3 * v + 2) hr (by omega) (fun t ht => by cases ht; exact hv) ⟨by omega, by omega, Or.inr ⟨v, rfl, by omega, rfl, rfl, hT⟩⟩ ⟨v, by omega, rfl⟩
      have e6 : (stI σ 1 7 (nI v)).1 1 6 = nI cnt := by rw [stI_e, if_neg (show ¬ 6 = 7 by omega)]; exact c1
      have e1 : s_Main_renewLikings (stI σ 1 7 (nI v)) = some σ' := by
        unfold s_Main_renewLikings s_Main_renewLikings_34 s_Main_renewLikings_35 s_Main_renewLikings_57
        rw [e6, stI_e, if_pos rfl, if_neg (nI_pos (n := v) (by omega)), if_neg (show ¬ nI cnt ≤ nI v from nI_ge hv (by omega)), if_neg (show ¬ (5 : Int32) ≤ nI v from nI_ge (a := v) (b := 5) (by omega) (by omega)), if_neg (show ¬ (1 : Int32) = 0 by decide), if_pos (ib_nI (show v < 5 by omega) (by omega)), nI_clamp (show v < 2 ^ 31 by omega)]
        simp only [xl]
        rw [show s_Likings_renew (195 + 3 * v) (stI σ 1 7 (nI v)) = some σ' from r1]
        rfl
      rw [e1] at eC
      simp only [xb1] at eC
      exact ⟨1, σ', _, eC, eM, S, P, F, E, n0, n + 1, cnt, mm, M, k, N, wn, mn, xn, qn, sn, go, some v, Bt, le, CLs, ln', r2, by omega⟩
    · rw [if_neg q2] at eC
      rw [if_neg (fun z => q2 (cond.mp z))] at eM
      exact (h.no hV hn 0 eC eM).mono (by omega)
/-- one more told -/
theorem w_tells (hV : Vcl V) (ht : Vtel V) (h : NV V c σ τ) (x y : Int32) : AL V c (s_Main_tells x y σ) (s_Model_tells x y τ) := by
  obtain ⟨S, P, F, E, n0, n, cnt, mm, M, k, N, wn, mn, xn, qn, sn, go, held, Bt, le, CLs, ln, h, hn⟩ := h
  obtain ⟨o1, o2, o3, o4, o5, o6, o7, o8, ⟨t, d1, d2, d3, d4⟩, o10, o11⟩ := id h.2.2.2
  have hS8 := h.1.S8
  have hP8 := h.1.P8
  have mz : ∀ b, b ≠ 570 → (stI τ 570 0 0).1 b = τ.1 b := fun b hb => stI_n hb
  have mz1 : ∀ j, j ≠ 0 → (stI τ 570 0 0).1 570 j = τ.1 570 j := fun j hj => by rw [stI_570, if_neg hj]
  have e26 : (stI τ 570 0 0).1 570 26 = nI S := by rw [mz1 26 (by omega)]; exact h.1.1.2.1.1
  have e27 : (stI τ 570 0 0).1 570 27 = nI P := by rw [mz1 27 (by omega)]; exact h.1.1.2.1.2.2.1
  have e57 : (stI τ 570 0 0).1 570 57 = nI t := by rw [mz1 57 (by omega)]; exact d2
  -- what comes of a sitter and a place
  have tell : ∀ p, p < P → plc S y → AL V c (s_Main_tells_29 (nI p) y σ) (s_Model_tells_32 (nI p) y (stI τ 570 0 0)) := by
    intro p hp hy
    unfold s_Main_tells_29 s_Model_tells_32 s_Main_tells_52 s_Model_tells_41 s_Branches_tell s_Branches_tell_16
    rw [d1, e57, if_neg (nI_pos (n := t) (by omega))]
    by_cases q : t = 8
    · rw [if_neg (show ¬ nI t < 8 by rw [q]; decide), if_pos (show nI t = 8 by rw [q]; rfl)]
      simp only [xb2]
      rw [if_pos trivial]
      exact h.no hV hn (-1) rfl rfl
    · have t8 : t < 8 := by omega
      rw [if_pos (show nI t < 8 from nI_lt (b := 8) t8 (by omega)), if_neg (show ¬ nI t = 8 from fun z => q (nI_ij (b := 8) (by omega) (by omega) z)), if_pos (ib_nI t8 (by omega)), if_pos (ib_nI t8 (by omega)), nI_clamp (show t < 2 ^ 31 by omega)]
      simp only [xl]
      rw [stI_n (a := 83) (b := 81) (by omega), d1, if_pos (ib_nI t8 (by omega)), nI_clamp (show t < 2 ^ 31 by omega), stI_n (a := 595) (b := 570) (by omega), e57, if_pos (ib_nI t8 (by omega)), nI_clamp (show t < 2 ^ 31 by omega), stI_n (a := 84) (b := 81) (by omega), stI_n (a := 83) (b := 81) (by omega), d1, stI_n (a := 596) (b := 570) (by omega), stI_n (a := 595) (b := 570) (by omega), e57, nI_1]
      simp only [xb2]
      rw [if_neg (show ¬ (1 : Int32) = 0 by decide)]
      obtain ⟨σ1, hσ1⟩ : ∃ s, s = stI (stI (stI σ 83 t (nI p)) 84 t y) 81 10 (nI (t + 1)) := ⟨_, rfl⟩
      obtain ⟨τ1, hτ1⟩ : ∃ s, s = stI (stI (stI (stI τ 570 0 0) 595 t (nI p)) 596 t y) 570 57 (nI (t + 1)) := ⟨_, rfl⟩
      rw [← hσ1, ← hτ1]
      have v1 : σ1.1 81 10 = nI (t + 1) := by rw [hσ1, stI_e, if_pos rfl]
      have v2 : τ1.1 570 57 = nI (t + 1) := by rw [hτ1, stI_570, if_pos rfl]
      have ec : ∀ b, b ≠ 81 → b ≠ 83 → b ≠ 84 → σ1.1 b = σ.1 b := fun b q1 q2 q3 => by rw [hσ1, stI_n q1, stI_n q3, stI_n q2]
      have ec1 : ∀ j, j ≠ 10 → σ1.1 81 j = σ.1 81 j := fun j q1 => by rw [hσ1, stI_e, if_neg q1, stI_n (by omega), stI_n (by omega)]
      have em : ∀ b, b ≠ 570 → b ≠ 595 → b ≠ 596 → τ1.1 b = τ.1 b := fun b q1 q2 q3 => by rw [hτ1, stI_n q1, stI_n q3, stI_n q2, mz b q1]
      have em1 : ∀ j, j ≠ 0 → j ≠ 57 → τ1.1 570 j = τ.1 570 j := fun j q1 q2 => by rw [hτ1, stI_570, if_neg q2, stI_n (by omega), stI_n (by omega), mz1 j q1]
      have f83 : ∀ j, σ1.1 83 j = if j = t then nI p else σ.1 83 j := fun j => by rw [hσ1, stI_n (by omega), stI_n (by omega), stI_e]
      have f84 : ∀ j, σ1.1 84 j = if j = t then y else σ.1 84 j := fun j => by rw [hσ1, stI_n (by omega), stI_e, stI_n (by omega)]
      have f95 : ∀ j, τ1.1 595 j = if j = t then nI p else τ.1 595 j := fun j => by rw [hτ1, stI_n (by omega), stI_n (by omega), stI_e, mz 595 (by omega)]
      have f96 : ∀ j, τ1.1 596 j = if j = t then y else τ.1 596 j := fun j => by rw [hτ1, stI_n (by omega), stI_e, stI_n (by omega), mz 596 (by omega)]
      rw [v1, v2]
      refine h.m hn (σ' := σ1) (τ' := τ1) ⟨fun b j q => ?_, by rw [hσ1]; rfl⟩ ⟨fun b j q => ?_, fun _ _ => by rw [hτ1]; rfl, by rw [hτ1]; rfl⟩ (by rw [hτ1]; rfl) ⟨o1, ?_, o3, ?_, ?_, ⟨?_, ?_, fun s hs => ?_⟩, ?_, ?_, ⟨t + 1, v1, v2, by omega, fun i hi => ?_⟩, ?_, ?_⟩ rfl rfl
      · rw [ec b (fun z => q (by unfold mvC; omega)) (fun z => q (by unfold mvC; omega)) (fun z => q (by unfold mvC; omega))]
      · by_cases e : b = 570
        · subst e
          exact em1 j (fun z => q (by unfold mvM; omega)) (fun z => q (by unfold mvM; omega))
        · rw [em b e (fun z => q (by unfold mvM; omega)) (fun z => q (by unfold mvM; omega))]
      · rw [ec 4 (by omega) (by omega) (by omega)]; exact o2
      · rw [ec 6 (by omega) (by omega) (by omega), em 575 (by omega) (by omega) (by omega)]; exact o4
      · unfold TPE at o5 ⊢
        rw [ec 2 (by omega) (by omega) (by omega), ec 3 (by omega) (by omega) (by omega), em 571 (by omega) (by omega) (by omega), em1 6 (by omega) (by omega)]
        exact o5
      · rw [ec 1 (by omega) (by omega) (by omega)]; exact o6.1
      · rw [em1 7 (by omega) (by omega)]; exact o6.2.1
      · have hc4 : cnt ≤ 4 := o1.2.2.2.1
        have z := o6.2.2 s hs
        unfold TasteC at z ⊢
        rw [ec (195 + 3 * s) (by omega) (by omega) (by omega), ec (195 + 3 * s + 1) (by omega) (by omega) (by omega)]
        exact z
      · rw [ec 1 (by omega) (by omega) (by omega)]; exact o7
      · obtain ⟨u, u1, u2, u3⟩ := o8
        refine ⟨u, u1, ?_, ?_⟩
        · rw [ec 1 (by omega) (by omega) (by omega)]; exact u2
        · rw [em1 36 (by omega) (by omega)]; exact u3
      · rw [f83, f84, f95, f96]
        by_cases z : i = t
        · rw [if_pos z, if_pos z, if_pos z, if_pos z]
          exact ⟨rfl, rfl, ⟨p, hp, rfl⟩, hy⟩
        · rw [if_neg z, if_neg z, if_neg z, if_neg z]
          exact d4 i (by omega)
      · unfold PIC at o10 ⊢
        rw [ec 1 (by omega) (by omega) (by omega), em1 59 (by omega) (by omega), em 597 (by omega) (by omega) (by omega)]
        rcases o10 with z | ⟨z1, z2, z3⟩
        · exact Or.inl z
        · refine Or.inr ⟨z1, z2, ?_⟩
          have eg : ∀ c, c < 9 → gH σ1 49 c = gH σ 49 c := fun c hc => ec (49 + c) (by omega) (by omega) (by omega)
          exact z3.cp hS8 hP8 (fun b hb => ec b (by omega) (by omega) (by omega)) ⟨fun c _ _ j _ => by rw [eg c (by omega)], by rw [eg 0 (by omega)], by rw [eg 0 (by omega)], by rw [eg 0 (by omega)]⟩ (fun j _ => by rw [eg 8 (by omega)]) (fun _ _ => rfl)
      · exact ht σ σ1 τ τ1 t o11 d1 t8 v1 ec ec1 em em1
  unfold s_Main_tells s_Model_tells
  simp only [xl]
  rw [g_isSitter h.1.hP hP8, m_isSitter, e27]
  simp only [xb2]
  by_cases q1 : 0 ≤ x ∧ x < nI P
  · rw [if_pos q1, if_neg (show ¬ (1 : Int32) = 0 by decide), if_neg (show ¬ (1 : Int32) = 0 by decide)]
    obtain ⟨p, hp, rfl⟩ := nI_ofx (by omega) q1.1 q1.2
    by_cases q2 : y = -1
    · rw [if_pos q2, if_pos q2]
      exact tell p hp (Or.inl q2)
    · rw [if_neg q2, if_neg q2]
      by_cases q3 : y = -2
      · rw [if_pos q3, if_pos q3]
        exact tell p hp (Or.inr (Or.inl q3))
      · rw [if_neg q3, if_neg q3, g_isSeat h.1.hS hS8, m_isSeat, e26]
        simp only
        by_cases q4 : 0 ≤ y ∧ y < nI S
        · rw [if_pos q4, if_neg (show ¬ (1 : Int32) = 0 by decide), if_neg (show ¬ (1 : Int32) = 0 by decide)]
          obtain ⟨s, hs, hy⟩ := nI_ofx (by omega) q4.1 q4.2
          exact tell p hp (Or.inr (Or.inr ⟨s, hs, hy⟩))
        · rw [if_neg q4, if_pos rfl, if_pos rfl]
          exact h.no hV hn (-1) rfl rfl
  · rw [if_neg q1, if_pos rfl, if_pos rfl]
    exact h.no hV hn (-1) rfl rfl
end
