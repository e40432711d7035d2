/-! tastes, the class: a text read -/
section
variable {σ : LH} {t e : Nat} {B : Nat → Nat}
theorem c_38F {a k g : Nat} {m y z : Int32} {C : Nat → Int32} (h : CT σ B e t) (ha : a ≤ e) (hg : g < 2 ^ 31) (hk : k ≤ 480) : ∃ a' C' k', s_TasteReader_readClause_38 t y z (cS σ t a (nI g) C k m) = some (0, cS σ t a' (nI g) C' k' m) := by
  have ht := h.1
  have go : ∃ a' C' k', s_TasteReader_readClause_48 t y z (cS σ t a (nI g) C k m) = some (0, cS σ t a' (nI g) C' k' m) := by
    unfold s_TasteReader_readClause_48
    rw [c_fine ht, if_neg (nI_m1 hg)]
    simp only [xb2]
    rw [if_pos trivial]
    exact c_108F h ha hg hk
  unfold s_TasteReader_readClause_38
  by_cases q : z = 0
  · rw [if_pos q]; exact go
  · rw [if_neg q, show s_TasteReader_sum RF 0 (cS σ t a (nI g) C k m) = some (cS σ t a (nI g) C k m) from c_sumF ht hg (by decide)]
    exact go
theorem c_bodF {a k g : Nat} {m : Int32} {C : Nat → Int32} (h : CT σ B e t) (ha : a ≤ e) (hg : g < 2 ^ 31) (hk : k ≤ 480) : ∃ a' C' k', (xb2 (s_Tape_letter 6 (cS σ t a (nI g) C k m)) fun r6 σ7 => if r6 = -1 then s_TasteReader_readClause_38 t (-1) 1 σ7 else s_TasteReader_readClause_38 t (-1) 0 σ7) = some ((0 : Int32), cS σ t a' (nI g) C' k' m) := by
  have g2 := sk_le (B := B) (e := e) (a := a) ha
  obtain ⟨r, e1, -⟩ := c_letter6 (f := nI g) (C := C) (k := k) (m := m) h ha
  rw [e1]
  simp only [xb2]
  by_cases q : r = -1
  · rw [if_pos q]; exact c_38F h g2 hg hk
  · rw [if_neg q]; exact c_38F h g2 hg hk
theorem c_clause {a k : Nat} {m : Int32} {C : Nat → Int32} (h : CT σ B e t) (ha : a ≤ e) (hk : k ≤ a) : CC σ B e t C k m (pClause B e a) (s_TasteReader_readClause t (cS σ t a (-1) C k m)) := by
  have ht := h.1
  have he := h.2.2.1
  have g1 := sk_ge (B := B) (e := e) (a := a)
  have g2 := sk_le (B := B) (e := e) (a := a) ha
  have hb0 : ∀ a, a ≤ e → Bd e a 0 (pUnit B e 16 0 a) := fun a ha => pUnit_bd 16 0 a ha
  have hF : ∀ a C k m, a ≤ e → k + e ≤ 470 + a → CO σ e t C k m (pUnit B e 16 0 a) (s_TasteReader_unit RF 0 (nI 0) (cS σ t a (-1) C k m)) := fun a C k m ha hk => c_unit h 16 0 a C k m (by omega) (by omega) ha hk
  unfold s_TasteReader_readClause pClause
  rw [show (121 : Int32) = nI 121 from rfl, c_needs h ha (by omega) (by omega)]
  by_cases q1 : chA B e (sk B e a) = 121
  · have hlt : sk B e a < e := chA_lt (B := B) (by omega)
    rw [if_pos q1, if_pos q1]
    simp only [xb1]
    rw [show (58 : Int32) = nI 58 from rfl, c_needs h (by omega) (by omega) (by omega)]
    have g3 := sk_ge (B := B) (e := e) (a := sk B e a + 1)
    have g4 := sk_le (B := B) (e := e) (a := sk B e a + 1) (by omega)
    generalize sk B e (sk B e a + 1) = a2 at *
    by_cases q2 : chA B e a2 = 58
    · have hlt2 : a2 < e := chA_lt (B := B) (by omega)
      rw [if_pos q2, if_pos q2]
      simp only
      obtain ⟨r6, e1, e2⟩ := c_letter6 (f := -1) (C := C) (k := k) (m := m) h (show a2 + 1 ≤ e by omega)
      rw [e1]
      simp only [xb2]
      have g5 := sk_le (B := B) (e := e) (a := a2 + 1) (by omega)
      have g6 := sk_ge (B := B) (e := e) (a := a2 + 1)
      generalize sk B e (a2 + 1) = a3 at *
      unfold pBody
      by_cases q3 : chA B e a3 = 33 ∨ chA B e a3 = 40
      · rw [if_pos q3, if_neg (fun z => e2.mp z q3)]
        unfold s_TasteReader_readClause_38 s_TasteReader_readClause_48
        rw [if_pos rfl, c_fine ht, if_pos rfl]
        simp only [xb2]
        rw [if_neg (show ¬ (1 : Int32) = 0 by decide), if_pos trivial]
        exact c_75 (a0 := a3) (s0 := 0) h (pCnd_bd hb0 (hb0 a3 g5)) (by omega) (c_cond (p0 := 0) (d := 0) h hb0 hF (c_truth (C := C) (k := k) (m := m) h hb0 hF g5 (by omega)) (hb0 a3 g5) (by omega))
      · rw [if_neg q3, if_pos (e2.mpr q3)]
        unfold s_TasteReader_readClause_38
        rw [if_neg (show ¬ (1 : Int32) = 0 by decide)]
        have hs := c_sum h 16 0 a3 C k m (by omega) (by omega) g5 (by omega)
        have hsb := pSum_bd (B := B) (e := e) 16 0 a3 g5
        cases hq : pSum B e 16 0 a3 with
        | inl f =>
          rw [hq] at hs
          obtain ⟨f1, a', C', k', m', f2, f3, f4⟩ := hs
          rw [show s_TasteReader_sum RF 0 (cS σ t a3 (-1) C k m) = _ from f4]
          simp only [xb1]
          unfold s_TasteReader_readClause_48
          rw [c_fine ht, if_neg (nI_m1 f1)]
          simp only [xb2]
          rw [if_pos trivial]
          obtain ⟨a4, C4, k4, e5⟩ := c_108F (B := B) (e := e) (y := -1) (C := C') (k := k') (m := m') h f2 f1 f3
          exact ⟨f1, a4, C4, k4, m', e5⟩
        | inr q =>
          rw [hq] at hs hsb
          have b1 := hsb.1
          have b2 := hsb.2.2
          have b3 := hsb.2.1
          have g8 := sk_ge (B := B) (e := e) (a := q.1)
          have g7 := sk_le (B := B) (e := e) (a := q.1) b3
          rw [show s_TasteReader_sum RF 0 (cS σ t a3 (-1) C k m) = some (cS σ t q.1 (-1) (wrC C k q.2) (k + q.2.length) (mtm m q.2)) from hs]
          simp only [xb1]
          unfold s_TasteReader_readClause_48
          rw [c_fine ht, if_pos rfl]
          simp only [xb2]
          rw [if_neg (show ¬ (1 : Int32) = 0 by decide), if_neg (show ¬ (1 : Int32) = 0 by decide)]
          obtain ⟨r7, e3, e4⟩ := c_letter7 (f := -1) (C := wrC C k q.2) (k := k + q.2.length) (m := mtm m q.2) h b3
          rw [e3]
          simp only
          by_cases q5 : (sgn (chA B e (sk B e q.1))).isSome = true
          · rw [if_pos q5, if_neg (fun z => e4.mp z q5)]
            have hcb : Bd e a3 0 (pCmp B e 0 (sk B e q.1) q.2) := pCmp_bd g7 (by omega) (by omega)
            have hc1 : CO σ e t C k m (pCmp B e 0 (sk B e q.1) q.2) (s_TasteReader_unit RF 1 (nI 0) (cS σ t (sk B e q.1) (-1) (wrC C k q.2) (k + q.2.length) (mtm m q.2))) := c_unit1 h (by decide) (by omega) g7 (by omega)
            exact c_75 (a0 := a3) (s0 := 0) h (pCnd_bd hb0 hcb) (by omega) (c_cond (p0 := 1) (d := 0) h hb0 hF (c_truth1 h hb0 hF hc1 hcb (by omega)) hcb (by omega))
          · rw [if_neg q5, if_pos (e4.mpr q5)]
            unfold s_TasteReader_readClause_108
            rw [c_put ht (by omega)]
            simp only [xb2]
            rw [c_landN (by decide)]
            simp only [xb1]
            have fin := c_108e (k' := 0) (C := upd (wrC C k q.2) (k + q.2.length) (-22)) (k := k + q.2.length + 1) (m := mtm m q.2) h g7
            simp only [xb1, xb2] at fin
            show _ = some (_, cS σ t _ _ (wrC C k (q.2 ++ [-22])) (k + (q.2.length + 1)) (mtm m (q.2 ++ [-22])))
            rw [wrC_one, wrC_app] at fin
            rw [← mtm_app, mtm_no (x := -22) (by decide), wrC_one, wrC_app]
            exact fin
    · rw [if_neg q2, if_neg q2]
      simp only
      obtain ⟨a', C', k', e1⟩ := c_bodF (C := C) (k := k) (m := m) h g4 (show a2 < 2 ^ 31 by omega) (by omega)
      exact ⟨by omega, a', C', k', m, e1⟩
  · rw [if_neg q1, if_neg q1]
    simp only [xb1]
    rw [c_needsF ht (show sk B e a < 2 ^ 31 by omega)]
    simp only
    obtain ⟨a', C', k', e1⟩ := c_bodF (C := C) (k := k) (m := m) h g2 (show sk B e a < 2 ^ 31 by omega) (by omega)
    exact ⟨by omega, a', C', k', m, e1⟩
/-- what comes of a whole text in the class -/
def CG (σ : LH) (t : Nat) (C0 : Nat → Int32) (m0 : Int32) (r : Nat ⊕ CL) (o : Option (Int32 × LH)) : Prop := match r with
  | .inl f => f < 2 ^ 31 ∧ ∃ a' C' k' m', o = some (nI f, cS σ t a' (nI f) C' k' m')
  | .inr cl => ∃ a', o = some (-1, cS σ t a' (-1) (wrC C0 0 (encA 0 cl)) (encA 0 cl).length (mtm m0 (encA 0 cl))) ∧ (encA 0 cl).length ≤ 240
theorem c_20F {a k g n : Nat} {m y : Int32} {C : Nat → Int32} (ht : 29 ≤ t) (hn : 0 < n) : s_TasteReader_read_20 t n 0 y (cS σ t a (nI g) C k m) = some (nI g, cS σ t a (nI g) C k m) := by
  obtain ⟨n, rfl⟩ : ∃ q, n = q + 1 := ⟨n - 1, by omega⟩
  rw [s_TasteReader_read_20]
  unfold s_TasteReader_read_20_b s_TasteReader_read_43
  rw [if_pos rfl, cS_w ht]
theorem c_all (h : CT σ B e t) {C0 : Nat → Int32} {m0 : Int32} : ∀ (n f i a : Nat) (acc : CL), e < n + a → n < f → a ≤ e → i + i ≤ a → (encA 0 acc).length ≤ a → CG σ t C0 m0 (pAll B e n a acc) (s_TasteReader_read_20 t f 1 (nI i) (cS σ t a (-1) (wrC C0 0 (encA 0 acc)) (encA 0 acc).length (mtm m0 (encA 0 acc)))) := by
  have ht := h.1
  have he := h.2.2.1
  intro n
  induction n with
  | zero => intro f i a acc h1 h2 h3; omega
  | succ n ih =>
    intro f i a acc h1 h2 h3 hi hk
    obtain ⟨f, rfl⟩ : ∃ q, f = q + 1 := ⟨f - 1, by omega⟩
    have hc := c_clause (C := wrC C0 0 (encA 0 acc)) (k := (encA 0 acc).length) (m := mtm m0 (encA 0 acc)) h h3 hk
    have hb := pClause_bd (B := B) (e := e) (a := a) h3
    have hl := pClause_len (B := B) (e := e) (a := a) h3
    rw [s_TasteReader_read_20]
    unfold s_TasteReader_read_20_b pAll
    rw [if_neg (show ¬ (1 : Int32) = 0 by decide), if_neg (show ¬ (240 : Int32) ≤ nI i from nI_ge (b := 240) (by omega) (by omega))]
    cases hq : pClause B e a with
    | inl g =>
      rw [hq] at hc
      obtain ⟨f1, a', C', k', m', f2⟩ := hc
      rw [f2]
      simp only [xb2, xl]
      rw [c_20F ht (by omega)]
      exact ⟨f1, a', C', k', m', rfl⟩
    | inr q =>
      rw [hq] at hc hb hl
      have hb : a < q.1 ∧ q.1 ≤ e := hb
      have hl : lenC q.2 + a ≤ q.1 := hl
      have hc : s_TasteReader_readClause t (cS σ t a (-1) (wrC C0 0 (encA 0 acc)) (encA 0 acc).length (mtm m0 (encA 0 acc))) = some (if chA B e (sk B e q.1) = 59 then 1 else 0, cS σ t (if chA B e (sk B e q.1) = 59 then sk B e q.1 + 1 else sk B e q.1) (if chA B e (sk B e q.1) = 59 ∨ chA B e (sk B e q.1) = 0 then -1 else nI (sk B e q.1)) (wrC (wrC C0 0 (encA 0 acc)) (encA 0 acc).length (encC (encA 0 acc).length q.2)) ((encA 0 acc).length + lenC q.2) (mtm (mtm m0 (encA 0 acc)) (encC (encA 0 acc).length q.2))) := hc
      have g7 := sk_le (B := B) (e := e) (a := q.1) hb.2
      have g8 := sk_ge (B := B) (e := e) (a := q.1)
      have en : encA 0 (acc ++ [q.2]) = encA 0 acc ++ encC (encA 0 acc).length q.2 := by
        rw [encA_app, Nat.zero_add]
      have e1 : wrC (wrC C0 0 (encA 0 acc)) (encA 0 acc).length (encC (encA 0 acc).length q.2) = wrC C0 0 (encA 0 (acc ++ [q.2])) := by
        rw [en, ← wrC_app (k := 0), Nat.zero_add]
      have e2 : mtm (mtm m0 (encA 0 acc)) (encC (encA 0 acc).length q.2) = mtm m0 (encA 0 (acc ++ [q.2])) := by
        rw [mtm_app, en]
      have e3 : (encA 0 acc).length + lenC q.2 = (encA 0 (acc ++ [q.2])).length := by
        rw [en, List.length_append, encC_len]
      rw [hc, e1, e2, e3]
      simp only [xb2, xl]
      have l2 : (encA 0 (acc ++ [q.2])).length ≤ q.1 := by omega
      by_cases q1 : chA B e (sk B e q.1) = 59
      · have hlt : sk B e q.1 < e := chA_lt (B := B) (by omega)
        simp only [if_pos q1, if_pos (show chA B e (sk B e q.1) = 59 ∨ chA B e (sk B e q.1) = 0 from Or.inl q1)]
        rw [nI_1]
        exact ih f (i + 1) (sk B e q.1 + 1) (acc ++ [q.2]) (by omega) (by omega) (by omega) (by omega) (by omega)
      · simp only [if_neg q1]
        by_cases q2 : chA B e (sk B e q.1) = 0
        · simp only [if_pos q2, if_pos (show chA B e (sk B e q.1) = 59 ∨ chA B e (sk B e q.1) = 0 from Or.inr q2)]
          refine ⟨sk B e q.1, ?_, by omega⟩
          obtain ⟨f, rfl⟩ : ∃ q, f = q + 1 := ⟨f - 1, by omega⟩
          rw [s_TasteReader_read_20]
          unfold s_TasteReader_read_20_b s_TasteReader_read_43
          rw [if_pos rfl, cS_w ht]
        · simp only [if_neg q2, if_neg (show ¬ (chA B e (sk B e q.1) = 59 ∨ chA B e (sk B e q.1) = 0) from fun z => z.elim q1 q2)]
          rw [c_20F ht (by omega)]
          exact ⟨by omega, _, _, _, _, rfl⟩
end
/-- a text is read into a taste -/
theorem c_read {σ : LH} {t e : Nat} {B : Nat → Nat} (ht : 29 ≤ t) (he : e ≤ 240) (h1 : σ.1 2 1 = nI e) (h3 : ∀ i, i < e → σ.1 3 i = nI (B i) ∧ 1 ≤ B i ∧ B i < 256) : CG (stT σ t) t (σ.1 (t + 1)) 0 (pAll B e (e + 1) 0 []) (s_TasteReader_read t σ) := by
  have hC : CT (stT σ t) B e t := ⟨ht, rfl, he, h1, h3⟩
  have e0 : stT (stI (stI (stI (stI σ 2 2 0) 2 3 (-1)) t 1 0) t 3 0) t = cS (stT σ t) t 0 (-1) (σ.1 (t + 1)) 0 0 := by
    unfold cS
    have : stF (stI (stI (stT σ t) 2 2 (nI 0)) 2 3 (-1)) (t + 1) (σ.1 (t + 1)) = stI (stI (stT σ t) 2 2 (nI 0)) 2 3 (-1) := by
      have e1 : σ.1 (t + 1) = (stI (stI (stT σ t) 2 2 (nI 0)) 2 3 (-1)).1 (t + 1) := by
        rw [stI_n (by omega), stI_n (by omega)]
        rfl
      rw [e1, stF_id]
    rw [this, nI_0]
    rfl
  unfold s_TasteReader_read s_Tape_rewind s_Taste_clear
  simp only [xl, xb1]
  rw [e0, ← nI_0]
  have := c_all hC (C0 := σ.1 (t + 1)) (m0 := 0) (e + 1) FUEL 0 0 [] (by omega) (by unfold FUEL; omega) (by omega) (by omega) (by show 0 ≤ 0; omega)
  have e1 : wrC (σ.1 (t + 1)) 0 (encA 0 []) = σ.1 (t + 1) := wrC_nil
  have e2 : mtm 0 (encA 0 []) = 0 := rfl
  rw [e1, e2] at this
  exact this
