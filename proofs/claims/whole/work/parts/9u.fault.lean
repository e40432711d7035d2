/-! fault -/
section
variable {V : LH → LH → Prop} {σ τ σ' τ' : LH} {S P F E n0 n cnt mm M k N c : Nat} {wn mn xn qn sn go : Nat → Nat} {held : Option Nat} {Bt : Nat → Nat → Nat} {le : Nat → Nat} {CLs : Nat → CL} {ln : Nat → Nat → Nat → Nat}
/-- what holds is said of cells of ints alone, in the class -/
theorem NVp.c2 (h : NVp V σ τ S P F E n0 n cnt mm M k N wn mn xn qn sn go held Bt le CLs ln) (hV : Vcl V) (e : σ'.1 = σ.1) : NVp V σ' τ S P F E n0 n cnt mm M k N wn mn xn qn sn go held Bt le CLs ln := by
  obtain ⟨g, r⟩ := σ'
  have e' : g = σ.1 := e
  subst e'
  obtain ⟨⟨K, T, hH, x4, x5, x6, x7, x8, x9, x10, x11, x12⟩, hG, ⟨p1, p2, p3, p4, p5, p6⟩, o⟩ := h
  exact ⟨⟨K.cg (fun _ _ => rfl) ⟨fun _ _ => rfl, fun _ _ => rfl⟩, T, hH.s (fun _ _ => rfl), x4, x5, x6, x7, x8, x9, x10, x11, x12⟩, hG, ⟨p1, p2, p3, p4, p5, fun i hi => (p6 i hi).cp K.1.2.1 K.1.2.2.2.1 (fun _ _ => rfl) ⟨fun _ _ _ _ _ => rfl, rfl, rfl, rfl⟩ (fun _ _ => rfl) (fun _ _ => rfl)⟩, o.fr hV (fun _ _ _ => rfl) (fun _ _ _ => rfl)⟩
theorem NVp.mc (h : NVp V σ τ S P F E n0 n cnt mm M k N wn mn xn qn sn go held Bt le CLs ln) (hV : Vcl V) (hσ : ∀ b j, ¬ mvC b j → σ'.1 b j = σ.1 b j) (hτ : FT mvM τ τ') (h5 : τ'.2.1 585 = τ.2.1 585) (o : OT V σ' τ' S P F E n cnt wn mn xn qn held Bt le CLs) : NVp V σ' τ' S P F E n0 n cnt mm M k N wn mn xn qn sn go held Bt le CLs ln := by
  have hσ2 : FR mvC σ (σ'.1, σ.2) := ⟨hσ, rfl⟩
  have o2 : OT V (σ'.1, σ.2) τ' S P F E n cnt wn mn xn qn held Bt le CLs := o.fr hV (fun _ _ _ => rfl) (fun _ _ _ => rfl)
  have x : NVp V (σ'.1, σ.2) τ' S P F E n0 n cnt mm M k N wn mn xn qn sn go held Bt le CLs ln := ⟨h.1.m MI.dep hσ2 hτ h5, h.2.1.m hσ2 hτ, h.2.2.1.m h.1.S8 h.1.P8 hσ2 hτ, o2⟩
  exact x.c2 hV rfl
/-- a text read, and nothing taken over -/
theorem OT.rd (h : OT V σ τ S P F E n cnt wn mn xn qn held Bt le CLs) (hV : Vcl V) (ec : ∀ b, b ≠ 2 → (b < 15 ∨ 28 ≤ b) → (b < 195 + 3 * cnt ∨ 210 ≤ b) → σ'.1 b = σ.1 b) (ec2 : ∀ j, j ≠ 2 → j ≠ 3 → σ'.1 2 j = σ.1 2 j) (em : ∀ b, b ≠ 570 → b ≠ 574 → b ≠ 576 → b ≠ 578 → b ≠ 580 → b ≠ 582 → b ≠ 586 → τ'.1 b = τ.1 b) (em1 : ∀ j, ¬ (j = 0 ∨ (8 ≤ j ∧ j ≤ 14) ∨ j = 17 ∨ (29 ≤ j ∧ j ≤ 32)) → τ'.1 570 j = τ.1 570 j) : OT V σ' τ' S P F E n cnt wn mn xn qn held Bt le CLs := by
  obtain ⟨o1, o2, o3, o4, o5, o6, o7, ⟨u, u1, u2, u3⟩, o9, o10, o11⟩ := h
  have hc4 : cnt ≤ 4 := o1.2.2.2.1
  have ecl : ∀ b, b ≠ 2 → (b < 15 ∨ (28 ≤ b ∧ b < 195)) → σ'.1 b = σ.1 b := fun b h1 h2 => ec b h1 (by omega) (by omega)
  refine ⟨o1, ?_, o3, ?_, ?_, ⟨?_, ?_, fun t ht => ?_⟩, ?_, ⟨u, u1, ?_, ?_⟩, ?_, ?_, ?_⟩
  · rw [ecl 4 (by omega) (by omega)]; exact o2
  · rw [ecl 6 (by omega) (by omega), em 575 (by omega) (by omega) (by omega) (by omega) (by omega) (by omega) (by omega)]; exact o4
  · unfold TPE at o5 ⊢
    rw [ec2 1 (by omega) (by omega), ecl 3 (by omega) (by omega), em 571 (by omega) (by omega) (by omega) (by omega) (by omega) (by omega) (by omega), em1 6 (by omega)]
    exact o5
  · rw [ecl 1 (by omega) (by omega)]; exact o6.1
  · rw [em1 7 (by omega)]; exact o6.2.1
  · have z := o6.2.2 t ht
    unfold TasteC at z ⊢
    rw [ec (195 + 3 * t) (by omega) (by omega) (by omega), ec (195 + 3 * t + 1) (by omega) (by omega) (by omega)]
    exact z
  · rw [ecl 1 (by omega) (by omega)]; exact o7
  · rw [ecl 1 (by omega) (by omega)]; exact u2
  · rw [em1 36 (by omega)]; exact u3
  · unfold TLD at o9 ⊢
    rw [ecl 81 (by omega) (by omega), ecl 83 (by omega) (by omega), ecl 84 (by omega) (by omega), em 595 (by omega) (by omega) (by omega) (by omega) (by omega) (by omega) (by omega), em 596 (by omega) (by omega) (by omega) (by omega) (by omega) (by omega) (by omega), em1 57 (by omega)]
    exact o9
  · unfold PIC at o10 ⊢
    rw [ecl 1 (by omega) (by omega), em1 59 (by omega), em 597 (by omega) (by omega) (by omega) (by omega) (by omega) (by omega) (by omega)]
    rcases o10 with z | ⟨z1, z2, z3⟩
    · exact Or.inl z
    · refine Or.inr ⟨z1, z2, ?_⟩
      have eg : ∀ c, c < 9 → gH σ' 49 c = gH σ 49 c := fun c hc => ecl (49 + c) (by omega) (by omega)
      exact z3.cp o1.1 o1.2.1 (fun b hb => ecl b (by omega) (by omega)) ⟨fun c _ _ j _ => by rw [eg c (by omega)], by rw [eg 0 (by omega)], by rw [eg 0 (by omega)], by rw [eg 0 (by omega)]⟩ (fun j _ => by rw [eg 8 (by omega)]) (fun _ _ => rfl)
  · refine hV σ σ' τ τ' o11 (fun b j z => ?_) (fun b j z => ?_)
    · have z1 : ¬ (b = 2 ∨ (15 ≤ b ∧ b < 33) ∨ (195 ≤ b ∧ b < 210)) := fun y => z (by unfold vC; omega)
      exact congrFun (ec b (by omega) (by omega) (by omega)) j
    · have z1 : ¬ (b = 574 ∨ b = 576 ∨ b = 578 ∨ b = 580 ∨ b = 582 ∨ b = 586 ∨ (b = 570 ∧ (j = 0 ∨ (8 ≤ j ∧ j ≤ 14) ∨ j = 17 ∨ (29 ≤ j ∧ j ≤ 32)))) := fun y => z (by unfold vM nwM scM wX; omega)
      by_cases e : b = 570
      · subst e
        exact em1 j (by omega)
      · exact congrFun (em b e (by omega) (by omega) (by omega) (by omega) (by omega) (by omega)) j
/-- the bytes of the tape, and what both sides make of them -/
theorem TPE.B (h : TPE σ τ) : ∃ T B, σ.1 2 1 = nI T ∧ τ.1 570 6 = nI T ∧ T ≤ 240 ∧ TT σ B T ∧ ∀ i, i < T → τ.1 571 i = sx (B i) ∧ 1 ≤ B i ∧ B i < 256 := by
  obtain ⟨T, t1, t2, t3, t4⟩ := h
  have : ∃ B : Nat → Nat, ∀ i, i < T → 1 ≤ B i ∧ B i < 256 ∧ σ.1 3 i = nI (B i) ∧ τ.1 571 i = sx (B i) := by
    refine ⟨fun i => if h : i < T then (t4 i h).choose else 0, fun i hi => ?_⟩
    simp only [dif_pos hi]
    exact (t4 i hi).choose_spec
  obtain ⟨B, hB⟩ := this
  exact ⟨T, B, t1, t2, t3, ⟨t3, t1, fun i hi => ⟨(hB i hi).2.2.1, (hB i hi).1, (hB i hi).2.1⟩⟩, fun i hi => ⟨(hB i hi).2.2.2, (hB i hi).1, (hB i hi).2.1⟩⟩
theorem LM_all (τ : LH) : ∃ l, LM τ l := by
  refine ⟨fun i => τ.1 574 ([119, 102, 120, 113, 109, 112].getD i 0), fun c i hc => ?_⟩
  unfold lix at hc
  split at hc
  · rename_i z; cases hc; rw [z]; rfl
  · split at hc
    · rename_i z; cases hc; rw [z]; rfl
    · split at hc
      · rename_i z; cases hc; rw [z]; rfl
      · split at hc
        · rename_i z; cases hc; rw [z]; rfl
        · split at hc
          · rename_i z; cases hc; rw [z]; rfl
          · split at hc
            · rename_i z; cases hc; rw [z]; rfl
            · cases hc
/-- what reading a room leaves, in both -/
theorem NVp.rr (h : NVp V σ τ S P F E n0 n cnt mm M k N wn mn xn qn sn go held Bt le CLs ln) (hV : Vcl V) (hσ : FR (wRc 15) σ σ') (hτ : FT wRr (stI τ 570 0 0) τ') (h5 : τ'.2.1 585 = τ.2.1 585) : NVp V σ' τ' S P F E n0 n cnt mm M k N wn mn xn qn sn go held Bt le CLs ln := by
  refine h.mc hV (fun b j q => hσ.1 b j (fun z => q (by unfold wRc at z; unfold mvC; omega))) ⟨fun b j q => ?_, fun b q => (hτ.2.1 b q), hτ.2.2⟩ h5 (h.2.2.2.rd hV (fun b q1 q2 q3 => funext fun j => hσ.1 b j (by unfold wRc; omega)) (fun j q1 q2 => hσ.1 2 j (by unfold wRc; omega)) (fun b q1 q2 q3 q4 q5 q6 q7 => funext fun j => ?_) (fun j q => ?_))
  · rw [hτ.1 b j (fun z => q (by unfold wRr wRd at z; unfold mvM; omega))]
    by_cases e : b = 570
    · subst e
      rw [stI_570, if_neg (fun z => q (by unfold mvM; omega))]
    · rw [stI_n e]
  · rw [hτ.1 b j (by unfold wRr wRd; omega), stI_n q1]
  · rw [hτ.1 570 j (by unfold wRr wRd; omega), stI_570, if_neg (by omega)]
/-- what reading a taste leaves, in both -/
theorem NVp.rt (h : NVp V σ τ S P F E n0 n cnt mm M k N wn mn xn qn sn go held Bt le CLs ln) (hV : Vcl V) (ec : ∀ b, b ≠ 2 → b ≠ 195 + 3 * cnt → b ≠ 195 + 3 * cnt + 1 → σ'.1 b = σ.1 b) (ec2 : ∀ j, j ≠ 2 → j ≠ 3 → σ'.1 2 j = σ.1 2 j) (hτ : SE1 (stI τ 570 0 0) τ') : NVp V σ' τ' S P F E n0 n cnt mm M k N wn mn xn qn sn go held Bt le CLs ln := by
  have hc4 : cnt ≤ 4 := h.2.2.2.1.2.2.2.1
  obtain ⟨⟨s1, s2, s3⟩, s4, s5⟩ := hτ
  have m1 : ∀ j, ¬ (j = 0 ∨ (8 ≤ j ∧ j ≤ 14) ∨ j = 17) → τ'.1 570 j = τ.1 570 j := fun j q => by
    rw [s1 570 j (by unfold nsc; omega), stI_570, if_neg (by omega)]
  have m0 : ∀ b, b ≠ 570 → τ'.1 b = τ.1 b := fun b q => by rw [s4 b q, stI_n q]
  refine h.mc hV (fun b j q => ?_) ⟨fun b j q => ?_, fun b q => s2 b q, s3⟩ (by rw [s5]; rfl) (h.2.2.2.rd hV (fun b q1 q2 q3 => ec b q1 (by omega) (by omega)) ec2 (fun b q1 _ _ _ _ _ _ => m0 b q1) (fun j q => m1 j (by omega)))
  · unfold mvC at q
    rw [ec b (by omega) (by omega) (by omega)]
  · by_cases e : b = 570
    · subst e
      exact m1 j (fun z => q (by unfold mvM; omega))
    · rw [m0 b e]
theorem c_next (h : σ.1 1 6 = nI cnt) (hc : cnt ≤ 4) : s_Main_nextTaste σ = some (195 + 3 * cnt, σ) := by
  unfold s_Main_nextTaste s_Main_nextTaste_37
  rw [h, if_neg (nI_pos (by omega)), if_neg (show ¬ (5 : Int32) ≤ nI cnt from nI_ge (b := 5) (by omega) (by omega)), if_pos (ib_nI (show cnt < 5 by omega) (by omega)), nI_clamp (show cnt < 2 ^ 31 by omega)]
  rfl
/-- a taste's text read into the next one, in both -/
theorem NVp.rdT (h : NVp V σ τ S P F E n0 n cnt mm M k N wn mn xn qn sn go held Bt le CLs ln) (hV : Vcl V) {T : Nat} {B : Nat → Nat} (t1 : σ.1 2 1 = nI T) (t3 : T ≤ 240) (tc : TT σ B T) (tm : ∀ i, i < T → τ.1 571 i = sx (B i) ∧ 1 ≤ B i ∧ B i < 256) : match pAll B T (T + 1) 0 [] with
    | .inl f => ∃ σ' τ', s_TasteReader_read (195 + 3 * cnt) σ = some (nI f, σ') ∧ s_Model_goThrough 571 0 (nI T) (stI τ 570 0 0) = some τ' ∧ τ'.1 570 11 = nI f ∧ f < 2 ^ 31 ∧ NVp V σ' τ' S P F E n0 n cnt mm M k N wn mn xn qn sn go held Bt le CLs ln
    | .inr cl => ∃ σ' τ', s_TasteReader_read (195 + 3 * cnt) σ = some (-1, σ') ∧ s_Model_goThrough 571 0 (nI T) (stI τ 570 0 0) = some τ' ∧ τ'.1 570 11 = -1 ∧ NVp V σ' τ' S P F E n0 n cnt mm M k N wn mn xn qn sn go held Bt le CLs ln ∧ TasteC σ' (195 + 3 * cnt) cl ∧ SE1 (stI τ 570 0 0) τ' ∧ σ'.1 3 = σ.1 3 ∧ σ'.1 2 1 = σ.1 2 1 := by
  have hc4 : cnt ≤ 4 := h.2.2.2.1.2.2.2.1
  have zm : TX (stI τ 570 0 0) B T 571 0 := ⟨Or.inl ⟨rfl, by omega⟩, fun i hi => by rw [stI_n (by omega), Nat.zero_add]; exact tm i hi⟩
  obtain ⟨l, hl⟩ := LM_all (stI τ 570 0 0)
  have a := c_read (t := 195 + 3 * cnt) (by omega) t3 t1 tc.2.2
  have b := m_goThrough zm hl
  have ecS : ∀ (a' k' : Nat) (f' m' : Int32) (C' : Nat → Int32), (∀ b, b ≠ 2 → b ≠ 195 + 3 * cnt → b ≠ 195 + 3 * cnt + 1 → (cS (stT σ (195 + 3 * cnt)) (195 + 3 * cnt) a' f' C' k' m').1 b = σ.1 b) ∧ ∀ j, j ≠ 2 → j ≠ 3 → (cS (stT σ (195 + 3 * cnt)) (195 + 3 * cnt) a' f' C' k' m').1 2 j = σ.1 2 j := fun a' k' f' m' C' => ⟨fun b q1 q2 q3 => by rw [cS_n (by omega) q1 q2 q3]; rfl, fun j q1 q2 => by rw [cS_f (by omega) ⟨q1, q2⟩]; rfl⟩
  cases hp : pAll B T (T + 1) 0 [] with
  | inl f =>
    rw [hp] at a b
    obtain ⟨a1, a', C', k', m', a2⟩ := a
    obtain ⟨τ', b1, b2, b3, b4⟩ := b
    obtain ⟨e1, e2⟩ := ecS a' k' (nI f) m' C'
    exact ⟨_, τ', a2, b1, b2, a1, h.rt hV e1 e2 b4⟩
  | inr cl =>
    rw [hp] at a b
    obtain ⟨a', a2, a3⟩ := a
    obtain ⟨τ', b1, b2, b3, b4, b5⟩ := b
    obtain ⟨e1, e2⟩ := ecS a' (encA 0 cl).length (-1) (mtm 0 (encA 0 cl)) (wrC (σ.1 (195 + 3 * cnt + 1)) 0 (encA 0 cl))
    refine ⟨_, τ', a2, b1, b2, h.rt hV e1 e2 b4, ⟨by omega, a3, cS_k, fun i hi => ?_, fun l' => pAll_wf zm hp l', ?_⟩, b4, e1 3 (by omega) (by omega) (by omega), e2 1 (by omega) (by omega)⟩
    · rw [cS_C]
      unfold wrC
      rw [if_pos ⟨Nat.zero_le i, by omega⟩]
      rfl
    · rw [cS_m]
      rfl
theorem w_fault (hV : Vcl V) (h : NV V c σ τ) (x : Int32) : AL V c (s_Main_fault x σ) (s_Model_fault x τ) := by
  obtain ⟨S, P, F, E, n0, n, cnt, mm, M, k, N, wn, mn, xn, qn, sn, go, held, Bt, le, CLs, ln, h, hn⟩ := h
  obtain ⟨T, B, t1, t2, t3, tc, tm⟩ := TPE.B h.2.2.2.2.2.2.2.1
  have z6 : (stI τ 570 0 0).1 570 6 = nI T := by rw [stI_570, if_neg (by omega)]; exact t2
  have zm : ∀ i, i < T → (stI τ 570 0 0).1 571 i = sx (B i) ∧ 1 ≤ B i ∧ B i < 256 := fun i hi => by rw [stI_n (by omega)]; exact tm i hi
  have o6 := h.2.2.2.2.2.2.2.2.1
  have hc4 : cnt ≤ 4 := h.2.2.2.1.2.2.2.1
  have done : ∀ {r : Int32} {σ' τ' : LH} {f g : Option (Int32 × LH)}, f = some (r, σ') → g = some (r, τ') → NVp V σ' τ' S P F E n0 n cnt mm M k N wn mn xn qn sn go held Bt le CLs ln → AL V c f g := fun e1 e2 y => ⟨_, _, _, e1, e2, S, P, F, E, n0, n, cnt, mm, M, k, N, wn, mn, xn, qn, sn, go, held, Bt, le, CLs, ln, y, hn⟩
  unfold s_Main_fault s_Model_fault s_Model_fault_42
  simp only [xl]
  rw [show s_Model_isIn (Int32.toInt64 x) 0 1 (stI τ 570 0 0) = _ from m_isIn (a := x) (b := 0) (c := 1)]
  simp only [xb2, ite10]
  by_cases q0 : x = 0
  · rw [if_pos q0, if_pos (show 0 ≤ x ∧ x ≤ 1 by rw [q0]; decide), if_pos q0]
    have a := r_read (rm := 15) tc (by omega) (by omega)
    have b := m_readRoom z6 t3 zm
    cases hp : pRoom B T (T + 1) 0 rmZ with
    | inl f =>
      rw [hp] at a b
      obtain ⟨σ', a1, a2⟩ := a
      obtain ⟨bf, τ', b1, b2, b3, b4⟩ := b
      rw [a1, b1]
      simp only [xb1]
      rw [b2]
      exact done rfl rfl (h.rr hV a2 b3 (by rw [b4]; rfl))
    | inr R =>
      rw [hp] at a b
      obtain ⟨σ', a1, a2, -⟩ := a
      obtain ⟨τ', b1, b2, b3, b4, -⟩ := b
      rw [a1, b1]
      simp only [xb1]
      rw [b2]
      exact done rfl rfl (h.rr hV a2 b3 (by rw [b4]; rfl))
  · by_cases q1 : x = 1
    · rw [if_neg q0, if_pos q1, if_pos (show 0 ≤ x ∧ x ≤ 1 by rw [q1]; decide), if_neg q0, c_next o6.1 hc4, z6]
      simp only
      have a := h.rdT hV t1 t3 tc tm
      cases hp : pAll B T (T + 1) 0 [] with
      | inl f =>
        rw [hp] at a
        obtain ⟨σ', τ', a1, a2, a3, a4, a5⟩ := a
        rw [a1, a2]
        simp only [xb1]
        rw [a3]
        exact done rfl rfl a5
      | inr cl =>
        rw [hp] at a
        obtain ⟨σ', τ', a1, a2, a3, a5, -⟩ := a
        rw [a1, a2]
        simp only [xb1]
        rw [a3]
        exact done rfl rfl a5
    · have nx : ¬ (0 ≤ x ∧ x ≤ 1) := fun z => by
        obtain ⟨v, rfl, v1, v2⟩ := nI_btw (a := 0) (b := 1) (by omega) (by omega) z.1 z.2
        rcases (show v = 0 ∨ v = 1 by omega) with rfl | rfl
        · exact q0 rfl
        · exact q1 rfl
      rw [if_neg q0, if_neg q1, if_neg nx]
      exact h.no hV hn (-2) rfl rfl
end
