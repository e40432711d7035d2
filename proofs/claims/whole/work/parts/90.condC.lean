/-! tastes, the class: conditions -/
section
variable {σ : LH} {t e : Nat} {B : Nat → Nat}
theorem c_150F {rf : Int32 → Int32 → LH → Option LH} {p0 p1 y : Int32} {a k g : Nat} {C : Nat → Int32} {m0 : Int32} (h : CT σ B e t) (hg : g < 2 ^ 31) (hk : k ≤ 480) : ∃ C' k', k' ≤ 480 ∧ s_TasteReader_unit_150 rf p0 p1 y (cS σ t a (nI g) C k m0) = some (cS σ t a (nI g) C' k' m0) := by
  have ht := h.1
  unfold s_TasteReader_unit_150 s_TasteReader_unit_164
  rw [show s_TasteReader_sum RF p1 (cS σ t a (nI g) C k m0) = some (cS σ t a (nI g) C k m0) from c_sumF ht hg (by decide)]
  simp only [xb1, xl]
  rw [cS_t, h.2.1]
  obtain ⟨r, C', k', e1, e2⟩ := c_putG (σ := σ) (a := a) (f := nI g) (C := C) (k := k) (m := m0) (x := y) ht hk
  rw [e2]
  exact ⟨C', k', e1, rfl⟩
theorem c_130F {rf : Int32 → Int32 → LH → Option LH} {p0 p1 y : Int32} {a k g : Nat} {C : Nat → Int32} {m0 : Int32} (h : CT σ B e t) (hg : g < 2 ^ 31) (hk : k ≤ 480) : ∃ C' k', k' ≤ 480 ∧ s_TasteReader_unit_130 rf p0 p1 y (cS σ t a (nI g) C k m0) = some (cS σ t a (nI g) C' k' m0) := by
  have ht := h.1
  unfold s_TasteReader_unit_130
  by_cases q : y = -1
  · rw [if_pos q, c_failF ht hg]
    exact c_150F h hg hk
  · rw [if_neg q]
    exact c_150F h hg hk
theorem c_78F {rf : Int32 → Int32 → LH → Option LH} {p0 p1 : Int32} {a k g : Nat} {C : Nat → Int32} {m0 : Int32} (h : CT σ B e t) (hg : g < 2 ^ 31) (hk : k ≤ 480) : ∃ C' k', k' ≤ 480 ∧ s_TasteReader_unit_78 rf p0 p1 (cS σ t a (nI g) C k m0) = some (cS σ t a (nI g) C' k' m0) := by
  have ht := h.1
  unfold s_TasteReader_unit_78
  rw [c_takesF ht hg]
  simp only [xb2]
  rw [if_pos trivial, c_takesF ht hg]
  simp only
  rw [if_pos trivial, c_takesF ht hg]
  simp only
  rw [if_pos trivial]
  exact c_130F h hg hk
theorem c_69F {rf : Int32 → Int32 → LH → Option LH} {p0 p1 : Int32} {a k g : Nat} {C : Nat → Int32} {m0 : Int32} (h : CT σ B e t) (hg : g < 2 ^ 31) (hk : k ≤ 480) : ∃ C' k', k' ≤ 480 ∧ s_TasteReader_unit_69 rf p0 p1 (cS σ t a (nI g) C k m0) = some (cS σ t a (nI g) C' k' m0) := by
  have ht := h.1
  unfold s_TasteReader_unit_69
  by_cases q : p0 = 0
  · rw [if_pos q, show s_TasteReader_sum RF p1 (cS σ t a (nI g) C k m0) = some (cS σ t a (nI g) C k m0) from c_sumF ht hg (by decide)]
    exact c_78F h hg hk
  · rw [if_neg q]
    exact c_78F h hg hk
theorem c_35F {rf : Int32 → Int32 → LH → Option LH} {p0 : Int32} {a k g d : Nat} {C : Nat → Int32} {m0 : Int32} (h : CT σ B e t) (hg : g < 2 ^ 31) (hk : k ≤ 480) : ∃ C' k', k' ≤ 480 ∧ s_TasteReader_unit_35 rf p0 (nI d) (cS σ t a (nI g) C k m0) = some (cS σ t a (nI g) C' k' m0) := by
  have ht := h.1
  unfold s_TasteReader_unit_35
  by_cases q : p0 = 0
  · rw [if_pos q, c_opensF ht hg]
    simp only [xb2]
    rw [if_pos trivial]
    exact c_69F h hg hk
  · rw [if_neg q]
    exact c_69F h hg hk
theorem c_unitF {p0 : Int32} {n a k g d : Nat} {C : Nat → Int32} {m0 : Int32} (h : CT σ B e t) (hg : g < 2 ^ 31) (hk : k ≤ 480) (hn : 0 < n) : ∃ C' k', k' ≤ 480 ∧ s_TasteReader_unit n p0 (nI d) (cS σ t a (nI g) C k m0) = some (cS σ t a (nI g) C' k' m0) := by
  have ht := h.1
  obtain ⟨n, rfl⟩ : ∃ q, n = q + 1 := ⟨n - 1, by omega⟩
  rw [s_TasteReader_unit]
  unfold s_TasteReader_unit_b
  by_cases q : p0 = 0
  · rw [if_pos q, c_opensF ht hg]
    simp only [xb2]
    rw [if_pos trivial]
    exact c_35F h hg hk
  · rw [if_neg q]
    exact c_35F h hg hk
theorem c_cmp {rf : Int32 → Int32 → LH → Option LH} {p0 : Int32} {d a k0 : Nat} {C0 : Nat → Int32} {m0 : Int32} {cs : List Int32} (h : CT σ B e t) (hd : d ≤ 6) (ha : a ≤ e) (hk : k0 + cs.length + e ≤ 470 + a) : CO σ e t C0 k0 m0 (pCmp B e d a cs) (s_TasteReader_unit_78 rf p0 (nI d) (cS σ t a (-1) (wrC C0 k0 cs) (k0 + cs.length) (mtm m0 cs))) := by
  have ht := h.1
  have he := h.2.2.1
  have g1 := sk_ge (B := B) (e := e) (a := a)
  have g2 := sk_le (B := B) (e := e) (a := a) ha
  have go : ∀ z : Int32, z ≠ -1 → z ≠ lco 4 → sk B e a < e → CO σ e t C0 k0 m0 (pSeq (pSum B e 16 d (sk B e a + 1)) (fun a' cs' => .inr (a', cs ++ cs' ++ [z]))) (s_TasteReader_unit_130 rf p0 (nI d) z (cS σ t (sk B e a + 1) (-1) (wrC C0 k0 cs) (k0 + cs.length) (mtm m0 cs))) := by
    intro z z1 z4 hlt
    have hf := c_sum h 16 d (sk B e a + 1) (wrC C0 k0 cs) (k0 + cs.length) (mtm m0 cs) hd (by omega) (by omega) (by omega)
    have hbb := pSum_bd (B := B) (e := e) 16 d (sk B e a + 1) (by omega)
    unfold s_TasteReader_unit_130 s_TasteReader_unit_150 s_TasteReader_unit_164 pSeq
    rw [if_neg z1]
    cases hq : pSum B e 16 d (sk B e a + 1) with
    | inl f =>
      rw [hq] at hf
      obtain ⟨f1, a', C', k', m', f2, f3, f4⟩ := hf
      rw [show s_TasteReader_sum RF (nI d) (cS σ t (sk B e a + 1) (-1) (wrC C0 k0 cs) (k0 + cs.length) (mtm m0 cs)) = _ from f4]
      simp only [xb1, xl]
      rw [cS_t, h.2.1]
      obtain ⟨r, C2', k2', p1, p2⟩ := c_putG (σ := σ) (a := a') (f := nI f) (C := C') (k := k') (m := m') (x := z) ht f3
      rw [p2]
      exact ⟨f1, a', C2', k2', m', f2, p1, rfl⟩
    | inr q =>
      rw [hq] at hf hbb
      have hf : s_TasteReader_sum RF (nI d) (cS σ t (sk B e a + 1) (-1) (wrC C0 k0 cs) (k0 + cs.length) (mtm m0 cs)) = some (cS σ t q.1 (-1) (wrC (wrC C0 k0 cs) (k0 + cs.length) q.2) (k0 + cs.length + q.2.length) (mtm (mtm m0 cs) q.2)) := hf
      have b1 := hbb.1
      have b2 := hbb.2.2
      have b3 := hbb.2.1
      rw [hf]
      simp only [xb1, xl]
      rw [cS_t, h.2.1, c_put ht (by omega)]
      simp only [xb2]
      have e1 : upd (wrC (wrC C0 k0 cs) (k0 + cs.length) q.2) (k0 + cs.length + q.2.length) z = wrC C0 k0 (cs ++ q.2 ++ [z]) := by
        rw [wrC_app, wrC_one, show k0 + cs.length + q.2.length = k0 + (cs ++ q.2).length by rw [List.length_append]; omega, wrC_app]
      have e2 : mtm (mtm m0 cs) q.2 = mtm m0 (cs ++ q.2 ++ [z]) := by
        rw [mtm_app, ← mtm_app (cs' := [z]), mtm_no z4]
      have e3 : k0 + cs.length + q.2.length + 1 = k0 + (cs ++ q.2 ++ [z]).length := by
        rw [List.length_append, List.length_append]
        show _ = k0 + (cs.length + q.2.length + 1)
        omega
      rw [e1, e2, e3]
      rfl
  unfold s_TasteReader_unit_78 pCmp sgn
  rw [show (61 : Int32) = nI 61 from rfl, c_takes h ha (by omega) (by omega)]
  by_cases q1 : chA B e (sk B e a) = 61
  · have hlt : sk B e a < e := chA_lt (B := B) (by omega)
    simp only [if_pos q1, xb2]
    rw [if_neg (show ¬ (1 : Int32) = 0 by decide)]
    exact go (-15) (by decide) (by decide) hlt
  · simp only [if_neg q1, xb2]
    rw [if_pos trivial, show (60 : Int32) = nI 60 from rfl, c_takes h g2 (by omega) (by omega), sk_sk ha]
    by_cases q2 : chA B e (sk B e a) = 60
    · have hlt : sk B e a < e := chA_lt (B := B) (by omega)
      simp only [if_pos q2]
      rw [if_neg (show ¬ (1 : Int32) = 0 by decide)]
      exact go (-16) (by decide) (by decide) hlt
    · simp only [if_neg q2]
      rw [if_pos trivial, show (62 : Int32) = nI 62 from rfl, c_takes h g2 (by omega) (by omega), sk_sk ha]
      by_cases q3 : chA B e (sk B e a) = 62
      · have hlt : sk B e a < e := chA_lt (B := B) (by omega)
        simp only [if_pos q3]
        rw [if_neg (show ¬ (1 : Int32) = 0 by decide)]
        exact go (-17) (by decide) (by decide) hlt
      · simp only [if_neg q3]
        rw [if_pos trivial]
        unfold s_TasteReader_unit_130
        rw [if_pos rfl, cS_a ht, c_fail ht]
        obtain ⟨C', k', e1, e2⟩ := c_150F (rf := rf) (p0 := p0) (p1 := nI d) (y := -1) (a := sk B e a) (g := sk B e a) (C := wrC C0 k0 cs) (k := k0 + cs.length) (m0 := mtm m0 cs) h (by omega) (by omega)
        exact ⟨by omega, _, C', k', _, g2, e1, e2⟩
theorem c_truthF {rf : Int32 → Int32 → LH → Option LH} {p0 p1 y : Int32} {n a k g : Nat} {C : Nat → Int32} {m0 : Int32} (ht : 29 ≤ t) (hg : g < 2 ^ 31) (hn : 0 < n) : s_TasteReader_truth_8 rf p0 p1 n y (cS σ t a (nI g) C k m0) = some (cS σ t a (nI g) C k m0) := by
  obtain ⟨n, rfl⟩ : ∃ q, n = q + 1 := ⟨n - 1, by omega⟩
  rw [s_TasteReader_truth_8]
  unfold s_TasteReader_truth_8_b s_TasteReader_truth_49
  by_cases q : 240 ≤ y
  · rw [if_pos q]
  · rw [if_neg q, c_takesF ht hg]
    simp only [xb2]
    rw [if_pos trivial]
theorem c_truthL (h : CT σ B e t) {rf : Int32 → Int32 → LH → Option LH} {p0 : Int32} {F : Nat → TR} {d k0 : Nat} {C0 : Nat → Int32} {m0 : Int32} (hb : ∀ a, a ≤ e → Bd e a 0 (F a)) (hF : ∀ a C k m, a ≤ e → k + e ≤ 470 + a → CO σ e t C k m (F a) (rf 0 (nI d) (cS σ t a (-1) C k m))) : ∀ (m n i a : Nat) (cs : List Int32), e < m + a → m ≤ n → a ≤ e → i + e < 240 + a → k0 + cs.length + e ≤ 470 + a → CO σ e t C0 k0 m0 (pLoop B e 38 38 (-18) (-18) F m a cs) (s_TasteReader_truth_8 rf p0 (nI d) n (nI i) (cS σ t a (-1) (wrC C0 k0 cs) (k0 + cs.length) (mtm m0 cs))) := by
  have ht := h.1
  have he := h.2.2.1
  intro m
  induction m with
  | zero => intro n i a cs h1 h2 h3; omega
  | succ m ih =>
    intro n i a cs h1 h2 h3 hi hk
    obtain ⟨n, rfl⟩ : ∃ q, n = q + 1 := ⟨n - 1, by omega⟩
    have g1 := sk_ge (B := B) (e := e) (a := a)
    have g2 := sk_le (B := B) (e := e) (a := a) h3
    rw [s_TasteReader_truth_8]
    unfold s_TasteReader_truth_8_b s_TasteReader_truth_49
    rw [if_neg (show ¬ (240 : Int32) ≤ nI i from nI_ge (b := 240) (by omega) (by omega)), show (38 : Int32) = nI 38 from rfl, c_takes h h3 (by omega) (by omega)]
    unfold pLoop
    by_cases q1 : chA B e (sk B e a) = 38
    · have hlt : sk B e a < e := chA_lt (B := B) (by omega)
      simp only [if_pos q1, xb2]
      rw [if_neg (show ¬ (1 : Int32) = 0 by decide), if_pos (show chA B e (sk B e a) = 38 ∨ chA B e (sk B e a) = 38 from Or.inl q1)]
      have hf := hF (sk B e a + 1) (wrC C0 k0 cs) (k0 + cs.length) (mtm m0 cs) (by omega) (by omega)
      have hbb := hb (sk B e a + 1) (by omega)
      unfold pSeq
      cases hq : F (sk B e a + 1) with
      | inl f =>
        rw [hq] at hf
        obtain ⟨f1, a', C', k', m', f2, f3, f4⟩ := hf
        rw [f4]
        simp only [xb1, xl]
        rw [cS_t, h.2.1]
        obtain ⟨r, C2', k2', p1, p2⟩ := c_putG (σ := σ) (a := a') (f := nI f) (C := C') (k := k') (m := m') (x := -18) ht f3
        rw [p2]
        simp only
        rw [c_truthF ht f1 (by omega)]
        exact ⟨f1, a', C2', k2', m', f2, p1, rfl⟩
      | inr q =>
        rw [hq] at hf hbb
        have hf : rf 0 (nI d) (cS σ t (sk B e a + 1) (-1) (wrC C0 k0 cs) (k0 + cs.length) (mtm m0 cs)) = some (cS σ t q.1 (-1) (wrC (wrC C0 k0 cs) (k0 + cs.length) q.2) (k0 + cs.length + q.2.length) (mtm (mtm m0 cs) q.2)) := hf
        have b1 := hbb.1
        have b2 := hbb.2.2
        have b3 := hbb.2.1
        rw [hf]
        simp only [xb1, xl]
        rw [cS_t, h.2.1, c_put ht (by omega)]
        simp only
        have e1 : upd (wrC (wrC C0 k0 cs) (k0 + cs.length) q.2) (k0 + cs.length + q.2.length) (-18) = wrC C0 k0 (cs ++ q.2 ++ [-18]) := by
          rw [wrC_app, wrC_one, show k0 + cs.length + q.2.length = k0 + (cs ++ q.2).length by rw [List.length_append]; omega, wrC_app]
        have e2 : mtm (mtm m0 cs) q.2 = mtm m0 (cs ++ q.2 ++ [-18]) := by
          rw [mtm_app, ← mtm_app (cs' := [-18]), mtm_no (by decide)]
        have e3 : k0 + cs.length + q.2.length + 1 = k0 + (cs ++ q.2 ++ [-18]).length := by
          rw [List.length_append, List.length_append]
          show _ = k0 + (cs.length + q.2.length + 1)
          omega
        rw [e1, e2, e3, nI_1]
        exact ih n (i + 1) q.1 _ (by omega) (by omega) b3 (by omega) (by rw [← e3]; omega)
    · simp only [if_neg q1, xb2]
      rw [if_pos trivial, if_neg (show ¬ (chA B e (sk B e a) = 38 ∨ chA B e (sk B e a) = 38) from fun z => z.elim q1 q1)]
      rfl
theorem c_truthS (h : CT σ B e t) {rf : Int32 → Int32 → LH → Option LH} {p0 : Int32} {F : Nat → TR} {d a0 k : Nat} {C : Nat → Int32} {m : Int32} {r : TR} {o : Option LH} (hb : ∀ a, a ≤ e → Bd e a 0 (F a)) (hF : ∀ a C k m, a ≤ e → k + e ≤ 470 + a → CO σ e t C k m (F a) (rf 0 (nI d) (cS σ t a (-1) C k m))) (hr : CO σ e t C k m r o) (hrb : Bd e a0 0 r) (hk : k + e ≤ 470 + a0) : CO σ e t C k m (pSeq r (pLoop B e 38 38 (-18) (-18) F (e + 1))) (xb1 o fun σ2 => s_TasteReader_truth_8 rf p0 (nI d) FUEL 0 σ2) := by
  have ht := h.1
  have he := h.2.2.1
  unfold pSeq
  cases r with
  | inl f =>
    obtain ⟨f1, a', C', k', m', f2, f3, f4⟩ := hr
    rw [f4]
    simp only [xb1]
    rw [c_truthF ht f1 (by unfold FUEL; omega)]
    exact ⟨f1, a', C', k', m', f2, f3, rfl⟩
  | inr q =>
    have hf : o = some (cS σ t q.1 (-1) (wrC C k q.2) (k + q.2.length) (mtm m q.2)) := hr
    have b1 := hrb.1
    have b2 := hrb.2.2
    have b3 := hrb.2.1
    rw [hf]
    simp only [xb1]
    rw [← nI_0]
    exact c_truthL h hb hF (e + 1) FUEL 0 q.1 q.2 (by omega) (by unfold FUEL; omega) b3 (by omega) (by omega)
theorem c_conditionF {rf : Int32 → Int32 → LH → Option LH} {p0 p1 y : Int32} {n a k g : Nat} {C : Nat → Int32} {m0 : Int32} (ht : 29 ≤ t) (hg : g < 2 ^ 31) (hn : 0 < n) : s_TasteReader_condition_8 rf p0 p1 n y (cS σ t a (nI g) C k m0) = some (cS σ t a (nI g) C k m0) := by
  obtain ⟨n, rfl⟩ : ∃ q, n = q + 1 := ⟨n - 1, by omega⟩
  rw [s_TasteReader_condition_8]
  unfold s_TasteReader_condition_8_b s_TasteReader_condition_49
  by_cases q : 240 ≤ y
  · rw [if_pos q]
  · rw [if_neg q, c_takesF ht hg]
    simp only [xb2]
    rw [if_pos trivial]
theorem c_conditionL (h : CT σ B e t) {rf : Int32 → Int32 → LH → Option LH} {p0 : Int32} {F : Nat → TR} {d k0 : Nat} {C0 : Nat → Int32} {m0 : Int32} (hb : ∀ a, a ≤ e → Bd e a 0 (F a)) (hF : ∀ a C k m, a ≤ e → k + e ≤ 470 + a → CO σ e t C k m (F a) (s_TasteReader_truth rf 0 (nI d) (cS σ t a (-1) C k m))) : ∀ (m n i a : Nat) (cs : List Int32), e < m + a → m ≤ n → a ≤ e → i + e < 240 + a → k0 + cs.length + e ≤ 470 + a → CO σ e t C0 k0 m0 (pLoop B e 124 124 (-19) (-19) F m a cs) (s_TasteReader_condition_8 rf p0 (nI d) n (nI i) (cS σ t a (-1) (wrC C0 k0 cs) (k0 + cs.length) (mtm m0 cs))) := by
  have ht := h.1
  have he := h.2.2.1
  intro m
  induction m with
  | zero => intro n i a cs h1 h2 h3; omega
  | succ m ih =>
    intro n i a cs h1 h2 h3 hi hk
    obtain ⟨n, rfl⟩ : ∃ q, n = q + 1 := ⟨n - 1, by omega⟩
    have g1 := sk_ge (B := B) (e := e) (a := a)
    have g2 := sk_le (B := B) (e := e) (a := a) h3
    rw [s_TasteReader_condition_8]
    unfold s_TasteReader_condition_8_b s_TasteReader_condition_49
    rw [if_neg (show ¬ (240 : Int32) ≤ nI i from nI_ge (b := 240) (by omega) (by omega)), show (124 : Int32) = nI 124 from rfl, c_takes h h3 (by omega) (by omega)]
    unfold pLoop
    by_cases q1 : chA B e (sk B e a) = 124
    · have hlt : sk B e a < e := chA_lt (B := B) (by omega)
      simp only [if_pos q1, xb2]
      rw [if_neg (show ¬ (1 : Int32) = 0 by decide), if_pos (show chA B e (sk B e a) = 124 ∨ chA B e (sk B e a) = 124 from Or.inl q1)]
      have hf := hF (sk B e a + 1) (wrC C0 k0 cs) (k0 + cs.length) (mtm m0 cs) (by omega) (by omega)
      have hbb := hb (sk B e a + 1) (by omega)
      unfold pSeq
      cases hq : F (sk B e a + 1) with
      | inl f =>
        rw [hq] at hf
        obtain ⟨f1, a', C', k', m', f2, f3, f4⟩ := hf
        rw [f4]
        simp only [xb1, xl]
        rw [cS_t, h.2.1]
        obtain ⟨r, C2', k2', p1, p2⟩ := c_putG (σ := σ) (a := a') (f := nI f) (C := C') (k := k') (m := m') (x := -19) ht f3
        rw [p2]
        simp only
        rw [c_conditionF ht f1 (by omega)]
        exact ⟨f1, a', C2', k2', m', f2, p1, rfl⟩
      | inr q =>
        rw [hq] at hf hbb
        have hf : s_TasteReader_truth rf 0 (nI d) (cS σ t (sk B e a + 1) (-1) (wrC C0 k0 cs) (k0 + cs.length) (mtm m0 cs)) = some (cS σ t q.1 (-1) (wrC (wrC C0 k0 cs) (k0 + cs.length) q.2) (k0 + cs.length + q.2.length) (mtm (mtm m0 cs) q.2)) := hf
        have b1 := hbb.1
        have b2 := hbb.2.2
        have b3 := hbb.2.1
        rw [hf]
        simp only [xb1, xl]
        rw [cS_t, h.2.1, c_put ht (by omega)]
        simp only
        have e1 : upd (wrC (wrC C0 k0 cs) (k0 + cs.length) q.2) (k0 + cs.length + q.2.length) (-19) = wrC C0 k0 (cs ++ q.2 ++ [-19]) := by
          rw [wrC_app, wrC_one, show k0 + cs.length + q.2.length = k0 + (cs ++ q.2).length by rw [List.length_append]; omega, wrC_app]
        have e2 : mtm (mtm m0 cs) q.2 = mtm m0 (cs ++ q.2 ++ [-19]) := by
          rw [mtm_app, ← mtm_app (cs' := [-19]), mtm_no (by decide)]
        have e3 : k0 + cs.length + q.2.length + 1 = k0 + (cs ++ q.2 ++ [-19]).length := by
          rw [List.length_append, List.length_append]
          show _ = k0 + (cs.length + q.2.length + 1)
          omega
        rw [e1, e2, e3, nI_1]
        exact ih n (i + 1) q.1 _ (by omega) (by omega) b3 (by omega) (by rw [← e3]; omega)
    · simp only [if_neg q1, xb2]
      rw [if_pos trivial, if_neg (show ¬ (chA B e (sk B e a) = 124 ∨ chA B e (sk B e a) = 124) from fun z => z.elim q1 q1)]
      rfl
theorem c_conditionS (h : CT σ B e t) {rf : Int32 → Int32 → LH → Option LH} {p0 : Int32} {F : Nat → TR} {d a0 k : Nat} {C : Nat → Int32} {m : Int32} {r : TR} {o : Option LH} (hb : ∀ a, a ≤ e → Bd e a 0 (F a)) (hF : ∀ a C k m, a ≤ e → k + e ≤ 470 + a → CO σ e t C k m (F a) (s_TasteReader_truth rf 0 (nI d) (cS σ t a (-1) C k m))) (hr : CO σ e t C k m r o) (hrb : Bd e a0 0 r) (hk : k + e ≤ 470 + a0) : CO σ e t C k m (pSeq r (pLoop B e 124 124 (-19) (-19) F (e + 1))) (xb1 o fun σ2 => s_TasteReader_condition_8 rf p0 (nI d) FUEL 0 σ2) := by
  have ht := h.1
  have he := h.2.2.1
  unfold pSeq
  cases r with
  | inl f =>
    obtain ⟨f1, a', C', k', m', f2, f3, f4⟩ := hr
    rw [f4]
    simp only [xb1]
    rw [c_conditionF ht f1 (by unfold FUEL; omega)]
    exact ⟨f1, a', C', k', m', f2, f3, rfl⟩
  | inr q =>
    have hf : o = some (cS σ t q.1 (-1) (wrC C k q.2) (k + q.2.length) (mtm m q.2)) := hr
    have b1 := hrb.1
    have b2 := hrb.2.2
    have b3 := hrb.2.1
    rw [hf]
    simp only [xb1]
    rw [← nI_0]
    exact c_conditionL h hb hF (e + 1) FUEL 0 q.1 q.2 (by omega) (by unfold FUEL; omega) b3 (by omega) (by omega)
theorem c_truth (h : CT σ B e t) {rf : Int32 → Int32 → LH → Option LH} {un : Nat → TR} {d : Nat} (hb : ∀ a, a ≤ e → Bd e a 0 (un a)) (hF : ∀ a C k m, a ≤ e → k + e ≤ 470 + a → CO σ e t C k m (un a) (rf 0 (nI d) (cS σ t a (-1) C k m))) {a k : Nat} {C : Nat → Int32} {m : Int32} (ha : a ≤ e) (hk : k + e ≤ 470 + a) : CO σ e t C k m (pPart B e un (un a)) (s_TasteReader_truth rf 0 (nI d) (cS σ t a (-1) C k m)) := c_truthS h hb hF (hF a C k m ha hk) (hb a ha) hk
theorem c_truth1 (h : CT σ B e t) {rf : Int32 → Int32 → LH → Option LH} {un : Nat → TR} {d a0 k : Nat} {C : Nat → Int32} {m : Int32} {r : TR} {s1 : LH} (hb : ∀ a, a ≤ e → Bd e a 0 (un a)) (hF : ∀ a C k m, a ≤ e → k + e ≤ 470 + a → CO σ e t C k m (un a) (rf 0 (nI d) (cS σ t a (-1) C k m))) (hr : CO σ e t C k m r (rf 1 (nI d) s1)) (hrb : Bd e a0 0 r) (hk : k + e ≤ 470 + a0) : CO σ e t C k m (pPart B e un r) (s_TasteReader_truth rf 1 (nI d) s1) := c_truthS h hb hF hr hrb hk
theorem c_cond (h : CT σ B e t) {rf : Int32 → Int32 → LH → Option LH} {p0 : Int32} {un : Nat → TR} {d a0 k : Nat} {C : Nat → Int32} {m : Int32} {r : TR} {s1 : LH} (hb : ∀ a, a ≤ e → Bd e a 0 (un a)) (hF : ∀ a C k m, a ≤ e → k + e ≤ 470 + a → CO σ e t C k m (un a) (rf 0 (nI d) (cS σ t a (-1) C k m))) (hr : CO σ e t C k m (pPart B e un r) (s_TasteReader_truth rf p0 (nI d) s1)) (hrb : Bd e a0 0 r) (hk : k + e ≤ 470 + a0) : CO σ e t C k m (pCnd B e un r) (s_TasteReader_condition rf p0 (nI d) s1) := c_conditionS h (fun a ha => pPart_bd hb (hb a ha)) (fun a C k m ha hk => c_truth h hb hF ha hk) hr (pPart_bd hb hrb) hk
theorem c_unit (h : CT σ B e t) : ∀ (n d a : Nat) (C : Nat → Int32) (k : Nat) (m : Int32), d ≤ 6 → 7 ≤ n + d → a ≤ e → k + e ≤ 470 + a → CO σ e t C k m (pUnit B e n d a) (s_TasteReader_unit n 0 (nI d) (cS σ t a (-1) C k m)) := by
  have ht := h.1
  have he := h.2.2.1
  intro n
  induction n with
  | zero => intro d a C k m h1 h2; omega
  | succ n ih =>
    intro d a C k m hd hn ha hk
    have g1 := sk_ge (B := B) (e := e) (a := a)
    have g2 := sk_le (B := B) (e := e) (a := a) ha
    rw [s_TasteReader_unit]
    unfold s_TasteReader_unit_b s_TasteReader_unit_164 pUnit
    rw [if_pos rfl, show (33 : Int32) = nI 33 from rfl, c_opens h ha (by omega) (by omega) hd]
    by_cases q1 : chA B e (sk B e a) = 33
    · have hlt : sk B e a < e := chA_lt (B := B) (by omega)
      simp only [if_pos q1]
      by_cases q6 : d = 6
      · simp only [if_pos q6, xb2]
        rw [if_pos trivial]
        obtain ⟨C', k', e1, e2⟩ := c_35F (rf := s_TasteReader_unit n) (p0 := 0) (d := d) (a := sk B e a) (g := sk B e a) (C := C) (k := k) (m0 := m) h (by omega) (by omega)
        exact ⟨by omega, _, C', k', m, g2, e1, e2⟩
      · simp only [if_neg q6, xb2]
        rw [if_neg (show ¬ (1 : Int32) = 0 by decide), nI_1]
        have hf := ih (d + 1) (sk B e a + 1) C k m (by omega) (by omega) (by omega) (by omega)
        have hbb := pUnit_bd (B := B) (e := e) n (d + 1) (sk B e a + 1) (by omega)
        unfold pSeq
        cases hq : pUnit B e n (d + 1) (sk B e a + 1) with
        | inl f =>
          rw [hq] at hf
          obtain ⟨f1, a', C', k', m', f2, f3, f4⟩ := hf
          rw [f4]
          simp only [xb1, xl]
          rw [cS_t, h.2.1]
          obtain ⟨r, C2', k2', p1, p2⟩ := c_putG (σ := σ) (a := a') (f := nI f) (C := C') (k := k') (m := m') (x := -20) ht f3
          rw [p2]
          exact ⟨f1, a', C2', k2', m', f2, p1, rfl⟩
        | inr q =>
          rw [hq] at hf hbb
          have hf : s_TasteReader_unit n 0 (nI (d + 1)) (cS σ t (sk B e a + 1) (-1) C k m) = some (cS σ t q.1 (-1) (wrC C k q.2) (k + q.2.length) (mtm m q.2)) := hf
          have b1 := hbb.1
          have b2 := hbb.2.2
          have b3 := hbb.2.1
          rw [hf]
          simp only [xb1, xl]
          rw [cS_t, h.2.1, c_put ht (by omega), wrC_one, wrC_app]
          have e2 : mtm m q.2 = mtm m (q.2 ++ [-20]) := by rw [← mtm_app, mtm_no (x := -20) (by decide)]
          have e3 : k + q.2.length + 1 = k + (q.2 ++ [-20]).length := by rw [List.length_append]; rfl
          rw [e2, e3]
          rfl
    · simp only [if_neg q1, xb2]
      rw [if_pos trivial]
      unfold s_TasteReader_unit_35 s_TasteReader_unit_164
      rw [if_pos rfl, show (40 : Int32) = nI 40 from rfl, c_opens h g2 (by omega) (by omega) hd, sk_sk ha]
      by_cases q2 : chA B e (sk B e a) = 40
      · have hlt : sk B e a < e := chA_lt (B := B) (by omega)
        simp only [if_pos q2]
        by_cases q6 : d = 6
        · simp only [if_pos q6, xb2]
          rw [if_pos trivial]
          obtain ⟨C', k', e1, e2⟩ := c_69F (rf := s_TasteReader_unit n) (p0 := 0) (p1 := nI d) (a := sk B e a) (g := sk B e a) (C := C) (k := k) (m0 := m) h (by omega) (by omega)
          exact ⟨by omega, _, C', k', m, g2, e1, e2⟩
        · simp only [if_neg q6, xb2]
          rw [if_neg (show ¬ (1 : Int32) = 0 by decide), nI_1]
          have hb0 : ∀ a, a ≤ e → Bd e a 0 (pUnit B e n (d + 1) a) := fun a ha => pUnit_bd n (d + 1) a ha
          have hF : ∀ a C k m, a ≤ e → k + e ≤ 470 + a → CO σ e t C k m (pUnit B e n (d + 1) a) (s_TasteReader_unit n 0 (nI (d + 1)) (cS σ t a (-1) C k m)) := fun a C k m ha hk => ih (d + 1) a C k m (by omega) (by omega) ha hk
          have hf := c_cond (C := C) (k := k) (m := m) h hb0 hF (c_truth (C := C) (k := k) (m := m) h hb0 hF (show sk B e a + 1 ≤ e by omega) (by omega)) (hb0 (sk B e a + 1) (by omega)) (by omega)
          have hbb := pCnd_bd (B := B) hb0 (hb0 (sk B e a + 1) (by omega))
          unfold pShut
          cases hq : pCnd B e (pUnit B e n (d + 1)) (pUnit B e n (d + 1) (sk B e a + 1)) with
          | inl f =>
            rw [hq] at hf
            obtain ⟨f1, a', C', k', m', f2, f3, f4⟩ := hf
            rw [f4]
            simp only [xb1]
            rw [c_needsF ht f1]
            exact ⟨f1, a', C', k', m', f2, f3, rfl⟩
          | inr r =>
            rw [hq] at hf hbb
            have hf : s_TasteReader_condition (s_TasteReader_unit n) 0 (nI (d + 1)) (cS σ t (sk B e a + 1) (-1) C k m) = some (cS σ t r.1 (-1) (wrC C k r.2) (k + r.2.length) (mtm m r.2)) := hf
            have b1 := hbb.1
            have b2 := hbb.2.2
            have b3 := hbb.2.1
            rw [hf]
            simp only [xb1]
            rw [show (41 : Int32) = nI 41 from rfl, c_needs h b3 (by omega) (by omega)]
            have g3 := sk_le (B := B) (e := e) (a := r.1) b3
            by_cases q41 : chA B e (sk B e r.1) = 41
            · rw [if_pos q41, if_pos q41]
              rfl
            · rw [if_neg q41, if_neg q41]
              exact ⟨by omega, _, _, _, _, g3, by omega, rfl⟩
      · simp only [if_neg q2, xb2]
        rw [if_pos trivial]
        unfold s_TasteReader_unit_69
        rw [if_pos rfl]
        have hf := c_sum h 16 d (sk B e a) C k m hd (by omega) g2 (by omega)
        have hbb := pSum_bd (B := B) (e := e) 16 d (sk B e a) g2
        unfold pSeq
        cases hq : pSum B e 16 d (sk B e a) with
        | inl f =>
          rw [hq] at hf
          obtain ⟨f1, a', C', k', m', f2, f3, f4⟩ := hf
          rw [show s_TasteReader_sum RF (nI d) (cS σ t (sk B e a) (-1) C k m) = _ from f4]
          simp only [xb1]
          obtain ⟨C2', k2', e1, e2⟩ := c_78F (rf := s_TasteReader_unit n) (p0 := 0) (p1 := nI d) (a := a') (g := f) (C := C') (k := k') (m0 := m') h f1 f3
          exact ⟨f1, a', C2', k2', m', f2, e1, e2⟩
        | inr q =>
          rw [hq] at hf hbb
          have hf : s_TasteReader_sum RF (nI d) (cS σ t (sk B e a) (-1) C k m) = some (cS σ t q.1 (-1) (wrC C k q.2) (k + q.2.length) (mtm m q.2)) := hf
          have b1 := hbb.1
          have b2 := hbb.2.2
          rw [hf]
          simp only [xb1]
          exact c_cmp h hd hbb.2.1 (by omega)
/-- a condition whose first sum has been read -/
theorem c_unit1 (h : CT σ B e t) {n d a k0 : Nat} {C0 : Nat → Int32} {m0 : Int32} {cs : List Int32} (hn : 0 < n) (hd : d ≤ 6) (ha : a ≤ e) (hk : k0 + cs.length + e ≤ 470 + a) : CO σ e t C0 k0 m0 (pCmp B e d a cs) (s_TasteReader_unit n 1 (nI d) (cS σ t a (-1) (wrC C0 k0 cs) (k0 + cs.length) (mtm m0 cs))) := by
  obtain ⟨n, rfl⟩ : ∃ q, n = q + 1 := ⟨n - 1, by omega⟩
  rw [s_TasteReader_unit]
  unfold s_TasteReader_unit_b s_TasteReader_unit_35 s_TasteReader_unit_69
  rw [if_neg (show ¬ (1 : Int32) = 0 by decide), if_neg (show ¬ (1 : Int32) = 0 by decide), if_neg (show ¬ (1 : Int32) = 0 by decide)]
  exact c_cmp h hd ha hk
end
