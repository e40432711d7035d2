/-! tastes, the class: clauses, a text read -/
/-- a clause's codes, laid from k on -/
def encC (k : Nat) (q : Option (List Int32) × List Int32) : List Int32 := match q.1 with
  | none => q.2 ++ [-22]
  | some c => c ++ [-21, nI (k + c.length + q.2.length + 3)] ++ q.2 ++ [-22]
def encA : Nat → CL → List Int32
  | _, [] => []
  | k, q :: r => encC k q ++ encA (k + (encC k q).length) r
theorem encA_app {q : Option (List Int32) × List Int32} : ∀ (cl : CL) (k : Nat), encA k (cl ++ [q]) = encA k cl ++ encC (k + (encA k cl).length) q := by
  intro cl
  induction cl with
  | nil => intro k; show encC k q ++ [] = [] ++ encC (k + 0) q; rw [List.append_nil]; rfl
  | cons p r ih =>
    intro k
    show encC k p ++ encA (k + (encC k p).length) (r ++ [q]) = encC k p ++ encA (k + (encC k p).length) r ++ encC (k + (encC k p ++ encA (k + (encC k p).length) r).length) q
    rw [ih, List.append_assoc, List.length_append, Nat.add_assoc]
def lenC (q : Option (List Int32) × List Int32) : Nat := match q.1 with
  | none => q.2.length + 1
  | some c => c.length + q.2.length + 3
theorem encC_len {k : Nat} {q : Option (List Int32) × List Int32} : (encC k q).length = lenC q := by
  unfold encC lenC
  split
  · rw [List.length_append]; rfl
  · rw [List.length_append, List.length_append, List.length_append]
    show _ + 2 + _ + 1 = _
    omega
theorem pTail_len {B : Nat → Nat} {e a0 : Nat} {r : TR} (hb : Bd e a0 0 r) : match pTail B e r with
  | .inl _ => True
  | .inr q => lenC q.2 + a0 ≤ q.1 + 2 := by
  unfold pTail
  cases r with
  | inl f => trivial
  | inr q =>
    have g3 := sk_le (B := B) (e := e) (a := q.1) hb.2.1
    have g2 := sk_ge (B := B) (e := e) (a := q.1)
    by_cases q63 : chA B e (sk B e q.1) = 63
    · have hlt : sk B e q.1 < e := chA_lt (B := B) (by omega)
      simp only [if_pos q63]
      have hs := pSum_bd (B := B) (e := e) 16 0 (sk B e q.1 + 1) (by omega)
      have := hb.2.2
      cases hq : pSum B e 16 0 (sk B e q.1 + 1) with
      | inl f => trivial
      | inr p =>
        rw [hq] at hs
        have := hs.2.2
        show q.2.length + p.2.length + 3 + a0 ≤ p.1 + 2
        omega
    · simp only [if_neg q63]
theorem pClause_len {B : Nat → Nat} {e a : Nat} (ha : a ≤ e) : match pClause B e a with
  | .inl _ => True
  | .inr q => lenC q.2 + a ≤ q.1 := by
  have g1 := sk_ge (B := B) (e := e) (a := a)
  have g2 := sk_le (B := B) (e := e) (a := a) ha
  have hb0 : ∀ a, a ≤ e → Bd e a 0 (pUnit B e 16 0 a) := fun a ha => pUnit_bd 16 0 a ha
  unfold pClause
  by_cases q1 : chA B e (sk B e a) = 121
  · have hlt : sk B e a < e := chA_lt (B := B) (by omega)
    rw [if_pos q1]
    have g3 := sk_ge (B := B) (e := e) (a := sk B e a + 1)
    have g4 := sk_le (B := B) (e := e) (a := sk B e a + 1) (by omega)
    generalize sk B e (sk B e a + 1) = a2 at *
    by_cases q2 : chA B e a2 = 58
    · have hlt2 : a2 < e := chA_lt (B := B) (by omega)
      rw [if_pos q2]
      have g5 := sk_le (B := B) (e := e) (a := a2 + 1) (by omega)
      have g6 := sk_ge (B := B) (e := e) (a := a2 + 1)
      generalize sk B e (a2 + 1) = a3 at *
      unfold pBody
      by_cases q3 : chA B e a3 = 33 ∨ chA B e a3 = 40
      · rw [if_pos q3]
        have := pTail_len (B := B) (pCnd_bd (B := B) hb0 (hb0 a3 g5))
        cases hq : pTail B e (pCnd B e (pUnit B e 16 0) (pUnit B e 16 0 a3)) with
        | inl f => trivial
        | inr q =>
          rw [hq] at this
          have this : lenC q.2 + a3 ≤ q.1 + 2 := this
          show lenC q.2 + a ≤ q.1
          omega
      · rw [if_neg q3]
        have hsb := pSum_bd (B := B) (e := e) 16 0 a3 g5
        cases hq : pSum B e 16 0 a3 with
        | inl f => trivial
        | inr q =>
          rw [hq] at hsb
          have g8 := sk_ge (B := B) (e := e) (a := q.1)
          have g7 := sk_le (B := B) (e := e) (a := q.1) hsb.2.1
          simp only
          by_cases q5 : (sgn (chA B e (sk B e q.1))).isSome = true
          · rw [if_pos q5]
            have hcb : Bd e a3 0 (pCmp B e 0 (sk B e q.1) q.2) := pCmp_bd g7 (by have := hsb.1; omega) (by have := hsb.2.2; omega)
            have := pTail_len (B := B) (pCnd_bd (B := B) hb0 hcb)
            cases hq2 : pTail B e (pCnd B e (pUnit B e 16 0) (pCmp B e 0 (sk B e q.1) q.2)) with
            | inl f => trivial
            | inr p =>
              rw [hq2] at this
              have this : lenC p.2 + a3 ≤ p.1 + 2 := this
              show lenC p.2 + a ≤ p.1
              omega
          · rw [if_neg q5]
            have := hsb.2.2
            show q.2.length + 1 + a ≤ sk B e q.1
            omega
    · rw [if_neg q2]
      trivial
  · rw [if_neg q1]
    trivial
section
variable {σ : LH} {t e : Nat} {B : Nat → Nat}
/-- what comes of a clause in the class -/
def CC (σ : LH) (B : Nat → Nat) (e t : Nat) (C : Nat → Int32) (k : Nat) (m : Int32) (r : TC) (o : Option (Int32 × LH)) : Prop := match r with
  | .inl f => f < 2 ^ 31 ∧ ∃ a' C' k' m', o = some (0, cS σ t a' (nI f) C' k' m')
  | .inr q => o = some (if chA B e (sk B e q.1) = 59 then 1 else 0, cS σ t (if chA B e (sk B e q.1) = 59 then sk B e q.1 + 1 else sk B e q.1) (if chA B e (sk B e q.1) = 59 ∨ chA B e (sk B e q.1) = 0 then -1 else nI (sk B e q.1)) (wrC C k (encC k q.2)) (k + lenC q.2) (mtm m (encC k q.2)))
theorem c_landN {a k : Nat} {f m y : Int32} {C : Nat → Int32} (hy : y < 0) : s_Taste_land t y (cS σ t a f C k m) = some (cS σ t a f C k m) := by
  unfold s_Taste_land s_Taste_land_23
  rw [if_pos hy]
theorem c_land {a k j : Nat} {f m : Int32} {C : Nat → Int32} (ht : 29 ≤ t) (hj : j < 480) : s_Taste_land t (nI j) (cS σ t a f C k m) = some (cS σ t a f (upd C j (nI k)) k m) := by
  unfold s_Taste_land s_Taste_land_23
  rw [if_neg (nI_pos (by omega)), if_neg (show ¬ (480 : Int32) ≤ nI j from nI_ge (b := 480) (by omega) (by omega)), if_pos (ib_nI hj (by omega)), nI_clamp (by omega), cS_k]
  simp only [xl]
  rw [cS_sC ht]
theorem c_landG {a k : Nat} {f m : Int32} {C : Nat → Int32} (ht : 29 ≤ t) (y : Int32) : ∃ C', s_Taste_land t y (cS σ t a f C k m) = some (cS σ t a f C' k m) := by
  by_cases q1 : y < 0
  · exact ⟨C, c_landN q1⟩
  · obtain ⟨j, hj, rfl⟩ := nI_of q1
    by_cases q2 : j < 480
    · exact ⟨_, c_land ht q2⟩
    · refine ⟨C, ?_⟩
      unfold s_Taste_land s_Taste_land_23
      rw [if_neg q1, if_pos (show (480 : Int32) ≤ nI j from nI_le (a := 480) (by omega) hj)]
/-- the end of a clause, behind a fault -/
theorem c_108F {a k g : Nat} {m y : Int32} {C : Nat → Int32} (h : CT σ B e t) (ha : a ≤ e) (hg : g < 2 ^ 31) (hk : k ≤ 480) : ∃ a' C' k', s_TasteReader_readClause_108 t y (cS σ t a (nI g) C k m) = some (0, cS σ t a' (nI g) C' k' m) := by
  have ht := h.1
  obtain ⟨r, C1, k1, e1, e2⟩ := c_putG (σ := σ) (a := a) (f := nI g) (C := C) (k := k) (m := m) (x := -22) ht hk
  obtain ⟨C2, e3⟩ := c_landG (σ := σ) (t := t) (a := a) (f := nI g) (C := C1) (k := k1) (m := m) ht y
  unfold s_TasteReader_readClause_108
  rw [e2]
  simp only [xb2]
  rw [e3]
  simp only [xb1]
  rw [c_sign h ha]
  simp only
  by_cases q : oc (chA B e (sk B e a)) = -1
  · rw [if_pos q]
    exact ⟨_, C2, k1, rfl⟩
  · rw [if_neg q, c_needsF ht hg]
    simp only
    rw [c_fine ht, if_neg (nI_m1 hg)]
    simp only
    rw [if_pos (Or.inl rfl)]
    exact ⟨_, C2, k1, rfl⟩
/-- and without one -/
theorem c_108e {a k k' : Nat} {m : Int32} {C : Nat → Int32} (h : CT σ B e t) (ha : a ≤ e) : (xb2 (s_Tape_sign (cS σ t a (-1) C k m)) fun r20 σ21 => if r20 = -1 then some ((0 : Int32), σ21) else xb1 (s_Tape_needs 59 σ21) fun σ24 => xb2 (s_Tape_isFine σ24) fun r26 σ27 => if zb r26 then some (r26, σ27) else none) = some (if chA B e (sk B e a) = 59 then 1 else 0, cS σ t (if chA B e (sk B e a) = 59 then sk B e a + 1 else sk B e a) (if chA B e (sk B e a) = 59 ∨ chA B e (sk B e a) = 0 then -1 else nI (sk B e a)) C k m) := by
  have ht := h.1
  have he := h.2.2.1
  have g2 := sk_le (B := B) (e := e) (a := a) ha
  have hch := h.ch (a := sk B e a)
  rw [c_sign h ha]
  simp only [xb2]
  have k0 := oc_m1 (c := chA B e (sk B e a)) (by omega)
  by_cases q0 : chA B e (sk B e a) = 0
  · rw [if_pos (k0.mpr q0), if_neg (by omega), if_neg (by omega), if_pos (Or.inr q0)]
  · rw [if_neg (fun z => q0 (k0.mp z)), show (59 : Int32) = nI 59 from rfl, c_needs h g2 (by omega) (by omega), sk_sk ha]
    by_cases q1 : chA B e (sk B e a) = 59
    · simp only [if_pos q1, xb1]
      rw [c_fine ht, if_pos rfl, if_pos (Or.inl q1)]
      simp only
      rw [if_pos (Or.inr rfl)]
    · simp only [if_neg q1, xb1]
      rw [c_fine ht, if_neg (nI_m1 (by omega)), if_neg (fun z => z.elim q1 q0)]
      simp only
      rw [if_pos (Or.inl rfl)]
theorem c_75 {a0 k : Nat} {m y s0 : Int32} {C : Nat → Int32} {r : TR} {s1 : LH} (h : CT σ B e t) (hb : Bd e a0 0 r) (hk : k + e ≤ 460 + a0) (hr : CO σ e t C k m r (s_TasteReader_condition (s_TasteReader_unit RF) y 0 s1)) : CC σ B e t C k m (pTail B e r) (s_TasteReader_readClause_75 t y s1) := by
  have ht := h.1
  have he := h.2.2.1
  unfold s_TasteReader_readClause_75 pTail
  have faulty : ∀ (a' k' g : Nat) (C' : Nat → Int32) (m' : Int32), a' ≤ e → k' ≤ 480 → g < 2 ^ 31 → ∃ a2 C2 k2 m2, (xb2 (s_Taste_put t (-21) (cS σ t a' (nI g) C' k' m')) fun r35 σ36 => xb2 (s_Taste_put t 0 σ36) fun r38 σ39 => xb1 (s_TasteReader_sum RF 0 σ39) fun σ41 => s_TasteReader_readClause_108 t r38 σ41) = some (0, cS σ t a2 (nI g) C2 k2 m2) := by
    intro a' k' g C' m' h1 h2 h3
    obtain ⟨r1, C1, k1, e1, e2⟩ := c_putG (σ := σ) (a := a') (f := nI g) (C := C') (k := k') (m := m') (x := -21) ht h2
    obtain ⟨r2, C2, k2, e3, e4⟩ := c_putG (σ := σ) (a := a') (f := nI g) (C := C1) (k := k1) (m := m') (x := 0) ht e1
    rw [e2]
    simp only [xb2]
    rw [e4]
    simp only
    rw [show s_TasteReader_sum RF 0 (cS σ t a' (nI g) C2 k2 m') = some (cS σ t a' (nI g) C2 k2 m') from c_sumF ht h3 (by decide)]
    simp only [xb1]
    obtain ⟨a3, C3, k3, e5⟩ := c_108F (B := B) (e := e) (y := r2) (C := C2) (k := k2) (m := m') h h1 h3 e3
    exact ⟨a3, C3, k3, m', e5⟩
  cases r with
  | inl f =>
    obtain ⟨f1, a', C', k', m', f2, f3, f4⟩ := hr
    rw [f4]
    simp only [xb1]
    rw [c_needsF ht f1]
    obtain ⟨a2, C2, k2, m2, e1⟩ := faulty a' k' f C' m' f2 f3 f1
    exact ⟨f1, a2, C2, k2, m2, e1⟩
  | inr q =>
    have hf : s_TasteReader_condition (s_TasteReader_unit RF) y 0 s1 = some (cS σ t q.1 (-1) (wrC C k q.2) (k + q.2.length) (mtm m q.2)) := hr
    have b1 := hb.1
    have b2 := hb.2.2
    have b3 := hb.2.1
    have g3 := sk_le (B := B) (e := e) (a := q.1) b3
    have g4 := sk_ge (B := B) (e := e) (a := q.1)
    rw [hf]
    simp only [xb1]
    rw [show (63 : Int32) = nI 63 from rfl, c_needs h b3 (by omega) (by omega)]
    by_cases q63 : chA B e (sk B e q.1) = 63
    · have hlt : sk B e q.1 < e := chA_lt (B := B) (by omega)
      simp only [if_pos q63]
      rw [c_put ht (by omega)]
      simp only [xb2]
      rw [c_put ht (by omega)]
      simp only
      have hs := c_sum h 16 0 (sk B e q.1 + 1) (upd (upd (wrC C k q.2) (k + q.2.length) (-21)) (k + q.2.length + 1) 0) (k + q.2.length + 1 + 1) (mtm m q.2) (by omega) (by omega) (by omega) (by omega)
      have hsb := pSum_bd (B := B) (e := e) 16 0 (sk B e q.1 + 1) (by omega)
      cases hq : pSum B e 16 0 (sk B e q.1 + 1) with
      | inl f =>
        rw [hq] at hs
        obtain ⟨f1, a', C', k', m', f2, f3, f4⟩ := hs
        rw [show s_TasteReader_sum RF 0 (cS σ t (sk B e q.1 + 1) (-1) (upd (upd (wrC C k q.2) (k + q.2.length) (-21)) (k + q.2.length + 1) 0) (k + q.2.length + 1 + 1) (mtm m q.2)) = _ from f4]
        simp only
        obtain ⟨a3, C3, k3, e5⟩ := c_108F (B := B) (e := e) (y := nI (k + q.2.length + 1)) (C := C') (k := k') (m := m') h f2 f1 f3
        exact ⟨f1, a3, C3, k3, m', e5⟩
      | inr p =>
        rw [hq] at hs hsb
        have d1 := hsb.1
        have d2 := hsb.2.2
        have d3 := hsb.2.1
        rw [show s_TasteReader_sum RF 0 (cS σ t (sk B e q.1 + 1) (-1) (upd (upd (wrC C k q.2) (k + q.2.length) (-21)) (k + q.2.length + 1) 0) (k + q.2.length + 1 + 1) (mtm m q.2)) = _ from hs]
        simp only
        unfold s_TasteReader_readClause_108
        rw [c_put ht (by omega)]
        simp only [xb2]
        rw [c_land ht (by omega)]
        simp only [xb1]
        have fin := c_108e (k' := 0) (C := upd (upd (wrC (upd (upd (wrC C k q.2) (k + q.2.length) (-21)) (k + q.2.length + 1) 0) (k + q.2.length + 1 + 1) p.2) (k + q.2.length + 1 + 1 + p.2.length) (-22)) (k + q.2.length + 1) (nI (k + q.2.length + 1 + 1 + p.2.length + 1))) (k := k + q.2.length + 1 + 1 + p.2.length + 1) (m := mtm (mtm m q.2) p.2) h d3
        simp only [xb1, xb2] at fin
        show _ = some (_, cS σ t _ _ (wrC C k (q.2 ++ [-21, nI (k + q.2.length + p.2.length + 3)] ++ p.2 ++ [-22])) (k + (q.2.length + p.2.length + 3)) (mtm m (q.2 ++ [-21, nI (k + q.2.length + p.2.length + 3)] ++ p.2 ++ [-22])))
        have e1 : upd (upd (wrC (upd (upd (wrC C k q.2) (k + q.2.length) (-21)) (k + q.2.length + 1) 0) (k + q.2.length + 1 + 1) p.2) (k + q.2.length + 1 + 1 + p.2.length) (-22)) (k + q.2.length + 1) (nI (k + q.2.length + 1 + 1 + p.2.length + 1)) = wrC C k (q.2 ++ [-21, nI (k + q.2.length + p.2.length + 3)] ++ p.2 ++ [-22]) := by
          rw [← wrC_app, ← wrC_app, ← wrC_app]
          simp only [List.length_append]
          show _ = wrC (wrC (wrC (wrC C k q.2) (k + q.2.length) [-21, nI (k + q.2.length + p.2.length + 3)]) (k + (q.2.length + 2)) p.2) (k + (q.2.length + 2 + p.2.length)) [-22]
          rw [← wrC_one]
          generalize wrC C k q.2 = W
          funext j
          rw [upd_e, upd_e, upd_e]
          unfold wrC
          rw [upd_e, upd_e]
          have cA : (k + (q.2.length + 2) ≤ j ∧ j < k + (q.2.length + 2) + p.2.length) ↔ (k + q.2.length + 1 + 1 ≤ j ∧ j < k + q.2.length + 1 + 1 + p.2.length) := by omega
          have cB : (k + q.2.length ≤ j ∧ j < k + q.2.length + [-21, nI (k + q.2.length + p.2.length + 3)].length) ↔ (k + q.2.length ≤ j ∧ j < k + q.2.length + 2) := Iff.rfl
          have cC : (j = k + (q.2.length + 2 + p.2.length)) ↔ (j = k + q.2.length + 1 + 1 + p.2.length) := by omega
          have cD : k + (q.2.length + 2) = k + q.2.length + 1 + 1 := by omega
          simp only [cA, cB, cC, cD]
          by_cases z1 : j = k + q.2.length + 1
          · rw [if_pos z1, if_neg (show ¬ j = k + q.2.length + 1 + 1 + p.2.length by omega), if_neg (show ¬ (k + q.2.length + 1 + 1 ≤ j ∧ j < k + q.2.length + 1 + 1 + p.2.length) by omega), if_pos (show k + q.2.length ≤ j ∧ j < k + q.2.length + 2 by omega), show j - (k + q.2.length) = 1 by omega]
            show nI _ = nI _
            congr 1
            omega
          · rw [if_neg z1]
            by_cases z2 : j = k + q.2.length + 1 + 1 + p.2.length
            · rw [if_pos z2, if_pos z2]
            · rw [if_neg z2, if_neg z2]
              by_cases z3 : k + q.2.length + 1 + 1 ≤ j ∧ j < k + q.2.length + 1 + 1 + p.2.length
              · rw [if_pos z3, if_pos z3]
              · rw [if_neg z3, if_neg z3, if_neg z1]
                by_cases z4 : j = k + q.2.length
                · rw [if_pos z4, if_pos (show k + q.2.length ≤ j ∧ j < k + q.2.length + 2 by omega), show j - (k + q.2.length) = 0 by omega]
                  rfl
                · rw [if_neg z4, if_neg (show ¬ (k + q.2.length ≤ j ∧ j < k + q.2.length + 2) by omega)]
        have e2 : mtm (mtm m q.2) p.2 = mtm m (q.2 ++ [-21, nI (k + q.2.length + p.2.length + 3)] ++ p.2 ++ [-22]) := by
          rw [← mtm_app, ← mtm_app, ← mtm_app, mtm_no (x := -22) (by decide)]
          congr 1
          have : lco 4 ∉ [-21, nI (k + q.2.length + p.2.length + 3)] := fun z => by
            rcases List.mem_cons.mp z with z | z
            · exact absurd z (by decide)
            · have z2 := List.mem_singleton.mp z
              exact nI_pos (n := k + q.2.length + p.2.length + 3) (by omega) (by rw [← z2]; decide)
          show mtm m q.2 = mtm (mtm m q.2) _
          conv => rhs; unfold mtm
          rw [if_neg this]
          rfl
        have e3 : k + q.2.length + 1 + 1 + p.2.length + 1 = k + (q.2.length + p.2.length + 3) := by omega
        rw [e1, e2, e3] at fin
        rw [← e1, ← e2, ← e3] at fin ⊢
        exact fin
    · simp only [if_neg q63]
      obtain ⟨a2, C2, k2, m2, e1⟩ := faulty (sk B e q.1) (k + q.2.length) (sk B e q.1) (wrC C k q.2) (mtm m q.2) g3 (by omega) (by omega)
      exact ⟨by omega, a2, C2, k2, m2, e1⟩
end
