/-! small acts: restless, end -/
/-- what no world, likings or past depend on, in the class, in the model -/
def mvC (b j : Nat) : Prop := (b = 1 ∧ j ≠ 13 ∧ j ≠ 14) ∨ b = 2 ∨ b = 3 ∨ (15 ≤ b ∧ b < 33) ∨ (48 ≤ b ∧ b < 210)
def mvM (b j : Nat) : Prop := (b = 570 ∧ j ≠ 26 ∧ j ≠ 27 ∧ j ≠ 28 ∧ j ≠ 35 ∧ j ≠ 39 ∧ j ≠ 40 ∧ j ≠ 46) ∨ b = 571 ∨ b = 574 ∨ b = 576 ∨ b = 578 ∨ b = 580 ∨ b = 582 ∨ b = 584 ∨ (591 ≤ b ∧ b ≤ 597)
section
variable {V : LH → LH → Prop} {σ τ σ' τ' : LH} {S P F E n0 n cnt mm M k N c : Nat} {wn mn xn qn sn go : Nat → Nat} {held : Option Nat} {Bt : Nat → Nat → Nat} {le : Nat → Nat} {CLs : Nat → CL} {ln : Nat → Nat → Nat → Nat} {I : LH → Prop} {L : Nat → Nat → Nat → Int32}
theorem FR.mv (h : FR mvC σ σ') {b : Nat} (hb : (4 ≤ b ∧ b < 15) ∨ (33 ≤ b ∧ b < 48) ∨ 210 ≤ b) : σ'.1 b = σ.1 b := funext fun j => h.1 b j (by unfold mvC; omega)
theorem FT.mv (h : FT mvM τ τ') {b : Nat} (hb : b = 572 ∨ b = 573 ∨ b = 575 ∨ b = 577 ∨ b = 579 ∨ b = 581 ∨ b = 583 ∨ (585 ≤ b ∧ b ≤ 590)) : τ'.1 b = τ.1 b := funext fun j => h.1 b j (by unfold mvM; omega)
theorem QX.m (X : QX I σ τ S P n0 n E go L ln qn sn mm M) (hD : Idep I) (hσ : FR mvC σ σ') (hτ : FT mvM τ τ') (h5 : τ'.2.1 585 = τ.2.1 585) : QX I σ' τ' S P n0 n E go L ln qn sn mm M := by
  obtain ⟨K, T, R, x1, x2, x3, x4, x5, x6, x7, x8, x9⟩ := X
  have hS8 : S ≤ 8 := K.1.2.1
  have hP8 : P ≤ 8 := K.1.2.2.2.1
  have e7 : ∀ j, j = 26 ∨ j = 27 ∨ j = 28 ∨ j = 35 ∨ j = 39 ∨ j = 40 ∨ j = 46 → τ'.1 570 j = τ.1 570 j := fun j hj => hτ.1 570 j (by unfold mvM; omega)
  refine ⟨K.cg (fun b hb => hσ.mv (by omega)) ⟨fun b hb => hτ.mv (by omega), fun j hj => e7 j (by omega)⟩, ?_, ?_, ?_, ?_, x3, x4, x5, x6, x7, ⟨?_, ?_, ?_, ?_⟩, ?_⟩
  · unfold TL at T ⊢
    rw [hσ.mv (b := 35) (by omega), hσ.mv (b := 36) (by omega)]
    exact T
  · have eg : ∀ c, c < 9 → gH σ' 39 c = gH σ 39 c := fun c hc => hσ.mv (b := 39 + c) (by omega)
    rw [hτ.mv (b := 583) (by omega)]
    exact (R.s (fun b hb => hσ.mv (by omega))).cp ⟨fun c _ _ j _ => by rw [eg c (by omega)], by rw [eg 0 (by omega)], by rw [eg 0 (by omega)], by rw [eg 0 (by omega)]⟩ hS8 hP8 (fun _ _ => rfl)
  · rw [hσ.mv (b := 4) (by omega)]; exact x1
  · rw [hτ.mv (b := 581) (by omega)]; exact x2
  · rw [hσ.mv (b := 38) (by omega)]; exact x8.1
  · rw [hσ.mv (b := 38) (by omega)]; exact x8.2.1
  · rw [e7 39 (by omega)]; exact x8.2.2.1
  · rw [e7 40 (by omega)]; exact x8.2.2.2
  · exact hD τ τ' x9 (fun b hb => hτ.mv (by omega)) (e7 35 (by omega)) h5
theorem Lg.m (h : Lg (gH σ 39) (τ.1 583) M) (hσ : FR mvC σ σ') (hτ : FT mvM τ τ') : Lg (gH σ' 39) (τ'.1 583) M := by
  have e0 : gH σ' 39 0 = gH σ 39 0 := hσ.mv (b := 39 + 0) (by omega)
  have e8 : gH σ' 39 8 = gH σ 39 8 := hσ.mv (b := 39 + 8) (by omega)
  unfold Lg at h ⊢
  rw [e0, e8, hτ.mv (b := 583) (by omega)]
  exact h
theorem PR.m (h : PR σ τ S P n (E + 1) k N) (hS8 : S ≤ 8) (hP8 : P ≤ 8) (hσ : FR mvC σ σ') (hτ : FT mvM τ τ') : PR σ' τ' S P n (E + 1) k N := by
  obtain ⟨p1, p2, p3, p4, p5, p6⟩ := h
  refine ⟨?_, ?_, ?_, p4, p5, fun i hi => ?_⟩
  · rw [hσ.1 1 13 (by unfold mvC; omega)]; exact p1
  · rw [hσ.1 1 14 (by unfold mvC; omega)]; exact p2
  · rw [hτ.1 570 46 (by unfold mvM; omega)]; exact p3
  · have old := p6 i hi
    generalize (N + 40 - i) % 40 = x at old ⊢
    have ex : ∀ c, c < 9 → gH σ' (210 + 9 * x) c = gH σ (210 + 9 * x) c := fun c hc => hσ.mv (b := 210 + 9 * x + c) (by omega)
    exact old.cp hS8 hP8 (fun b hb => hσ.mv (by omega)) ⟨fun c _ _ j _ => by rw [ex c (by omega)], by rw [ex 0 (by omega)], by rw [ex 0 (by omega)], by rw [ex 0 (by omega)]⟩ (fun j _ => by rw [ex 8 (by omega)]) (fun j hj => by rw [hτ.mv (b := 590) (by omega)])
theorem NVp.m (h : NVp V σ τ S P F E n0 n cnt mm M k N wn mn xn qn sn go held Bt le CLs ln) (hn : n ≤ c) (hσ : FR mvC σ σ') (hτ : FT mvM τ τ') (h5 : τ'.2.1 585 = τ.2.1 585) (o : OT V σ' τ' S P F E n cnt wn mn xn qn held Bt le CLs) {f g : Option (Int32 × LH)} {r : Int32} (hf : f = some (r, σ')) (hg : g = some (r, τ')) : AL V c f g :=
  ⟨r, σ', τ', hf, hg, S, P, F, E, n0, n, cnt, mm, M, k, N, wn, mn, xn, qn, sn, go, held, Bt, le, CLs, ln, ⟨h.1.m MI.dep hσ hτ h5, h.2.1.m hσ hτ, h.2.2.1.m h.1.S8 h.1.P8 hσ hτ, o⟩, hn⟩
/-- the answer is no, and nothing changed -/
theorem NVp.no (h : NVp V σ τ S P F E n0 n cnt mm M k N wn mn xn qn sn go held Bt le CLs ln) (hV : Vcl V) (hn : n ≤ c) {f g : Option (Int32 × LH)} (r : Int32) (hf : f = some (r, σ)) (hg : g = some (r, stI τ 570 0 0)) : AL V c f g := h.qr hV hn (QR.no h.1 MI.dep r hf hg)
theorem OT.z (h : OT V σ τ S P F E n cnt wn mn xn qn held Bt le CLs) (hV : Vcl V) : OT V σ (stI τ 570 0 0) S P F E n cnt wn mn xn qn held Bt le CLs := h.fr hV (fun _ _ _ => rfl) (fun b j q => FT.z.1 b j (fun z => q (Or.inl z)))
theorem w_restless (hV : Vcl V) (h : NV V c σ τ) (x : Int32) : AL V c (s_Main_restless x σ) (s_Model_restless x τ) := by
  obtain ⟨S, P, F, E, n0, n, cnt, mm, M, k, N, wn, mn, xn, qn, sn, go, held, Bt, le, CLs, ln, h, hn⟩ := h
  obtain ⟨o1, o2, o3, o4, o5, o6, o7, ⟨u, u1, u2, u3⟩, o9, o10, o11⟩ := id h.2.2.2
  have eM : s_Model_restless x τ = if 0 ≤ x ∧ x ≤ 99 then (if x = nI u then some (0, stI τ 570 0 0) else some (1, stI (stI τ 570 0 0) 570 36 x)) else some (0, stI τ 570 0 0) := by
    unfold s_Model_restless s_Model_restless_25
    simp only [xl, m_in099, xb2, ite10]
    rw [show (stI τ 570 0 0).1 570 36 = nI u by rw [stI_570, if_neg (show ¬ 36 = 0 by omega)]; exact u3]
  have eC : s_Main_restless x σ = if 0 ≤ x ∧ x ≤ 99 then (if x = nI u then some (0, σ) else some (1, stI σ 1 8 x)) else some (0, σ) := by
    unfold s_Main_restless s_Main_restless_18
    rw [u2]
    simp only [xl]
    by_cases q1 : x < 0
    · rw [if_pos q1, if_neg (show ¬ (0 ≤ x ∧ x ≤ 99) from fun z => Int32.not_lt.mpr z.1 q1)]
    · rw [if_neg q1]
      by_cases q2 : 99 < x
      · rw [if_pos q2, if_neg (show ¬ (0 ≤ x ∧ x ≤ 99) from fun z => Int32.not_lt.mpr z.2 q2)]
      · rw [if_neg q2, if_pos (show 0 ≤ x ∧ x ≤ 99 from ⟨Int32.not_lt.mp q1, Int32.not_lt.mp q2⟩)]
  by_cases q : 0 ≤ x ∧ x ≤ 99
  · rw [if_pos q] at eC eM
    by_cases q2 : x = nI u
    · rw [if_pos q2] at eC eM
      exact h.no hV hn _ eC eM
    · rw [if_neg q2] at eC eM
      obtain ⟨v, rfl, -, hv⟩ := nI_btw (a := 0) (b := 99) (by omega) (by omega) q.1 q.2
      have hσ : FR mvC σ (stI σ 1 8 (nI v)) := FR.I (by unfold mvC; omega)
      have hτ : FT mvM τ (stI (stI τ 570 0 0) 570 36 (nI v)) := (FT.I (by unfold mvM; omega)).tr (FT.I (by unfold mvM; omega))
      have ec : ∀ b, b ≠ 1 → (stI σ 1 8 (nI v)).1 b = σ.1 b := fun b hb => stI_n hb
      have ec1 : ∀ j, j ≠ 8 → (stI σ 1 8 (nI v)).1 1 j = σ.1 1 j := fun j hj => by rw [stI_e, if_neg hj]
      have em : ∀ b, b ≠ 570 → (stI (stI τ 570 0 0) 570 36 (nI v)).1 b = τ.1 b := fun b hb => by rw [stI_n hb, stI_n hb]
      have em1 : ∀ j, j ≠ 0 → j ≠ 36 → (stI (stI τ 570 0 0) 570 36 (nI v)).1 570 j = τ.1 570 j := fun j h1 h2 => by rw [stI_570, if_neg h2, stI_570, if_neg h1]
      refine h.m hn hσ hτ rfl ⟨o1, ?_, o3, ?_, ?_, ⟨?_, ?_, ?_⟩, ?_, ⟨v, by omega, ?_, ?_⟩, ?_, ?_, ?_⟩ eC eM
      · rw [ec 4 (by omega)]; exact o2
      · rw [ec 6 (by omega), em 575 (by omega)]; exact o4
      · unfold TPE at o5 ⊢
        rw [ec 2 (by omega), ec 3 (by omega), em 571 (by omega), em1 6 (by omega) (by omega)]
        exact o5
      · rw [ec1 6 (by omega)]; exact o6.1
      · rw [em1 7 (by omega) (by omega)]; exact o6.2.1
      · intro t ht
        have hc4 : cnt ≤ 4 := o1.2.2.2.1
        have z := o6.2.2 t ht
        unfold TasteC at z ⊢
        rw [ec (195 + 3 * t) (by omega), ec (195 + 3 * t + 1) (by omega)]
        exact z
      · rw [ec1 7 (by omega)]; exact o7
      · rw [stI_e, if_pos rfl]
      · rw [stI_570, if_pos rfl]
      · unfold TLD at o9 ⊢
        rw [ec 81 (by omega), ec 83 (by omega), ec 84 (by omega), em 595 (by omega), em 596 (by omega), em1 57 (by omega) (by omega)]
        exact o9
      · unfold PIC at o10 ⊢
        rw [ec1 16 (by omega), em1 59 (by omega) (by omega), em 597 (by omega)]
        rcases o10 with z | ⟨z1, z2, z3⟩
        · exact Or.inl z
        · refine Or.inr ⟨z1, z2, ?_⟩
          have eg : ∀ c, c < 9 → gH (stI σ 1 8 (nI v)) 49 c = gH σ 49 c := fun c hc => ec (49 + c) (by omega)
          exact z3.cp h.1.S8 h.1.P8 (fun b hb => ec b (by omega)) ⟨fun c _ _ j _ => by rw [eg c (by omega)], by rw [eg 0 (by omega)], by rw [eg 0 (by omega)], by rw [eg 0 (by omega)]⟩ (fun j _ => by rw [eg 8 (by omega)]) (fun _ _ => rfl)
      · exact hV σ _ τ _ o11 (fun b j z => congrFun (ec b (fun y => z (by unfold vC nwC scC; omega))) j) (fun b j z => by
          have z1 : ¬ (b = 570 ∧ (j = 0 ∨ j = 36)) := fun y => z (by unfold vM nwM scM wX; omega)
          by_cases e : b = 570
          · subst e
            exact em1 j (by omega) (by omega)
          · rw [em b e])
  · rw [if_neg q] at eC eM
    exact h.no hV hn _ eC eM
end
