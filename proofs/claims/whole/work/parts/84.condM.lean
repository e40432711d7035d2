/-! tastes, the model: conditions -/
/-- as MO, of truths -/
def MB (τ : LH) (l : Nat → Int32) (d h : Nat) (r : TR) (o : Option (Int32 × LH)) : Prop := match r with
  | .inl f => f < 2 ^ 31 ∧ ∃ v x y, zb v ∧ o = some (v, mX τ x (nI f) y)
  | .inr q => ∃ v, zb v ∧ o = some (v, mS τ q.1 (-1) d) ∧ Val l q.2 v h
def hu9 (d : Nat) : Nat := 3 * (6 - d) + 25
theorem zb_and {a b : Int32} (ha : zb a) (hb : zb b) : jn (-18) a b = (if a = 0 then 0 else if b = 0 then 0 else 1) ∧ zb (jn (-18) a b) := by
  rcases ha with rfl | rfl <;> rcases hb with rfl | rfl <;> decide
theorem zb_or {a b : Int32} (ha : zb a) (hb : zb b) : jn (-19) a b = (if a = 0 then (if b = 0 then 0 else 1) else 1) ∧ zb (jn (-19) a b) := by
  rcases ha with rfl | rfl <;> rcases hb with rfl | rfl <;> decide
theorem zb_not {a : Int32} (ha : zb a) : (1 - a) = (if a = 0 then 1 else 0) ∧ zb (1 - a) := by
  rcases ha with rfl | rfl <;> decide
theorem mS_failsF {τ : LH} {a d g : Nat} (hg : g < 2 ^ 31) : s_Model_fails (mS τ a (nI g) d) = some (0, mS τ a (nI g) d) := mX_failsF hg
theorem m_c111 {p0 p1 z : Int32} {σ : LH} (hz : zb z) : s_Model_compares_111 p0 p1 z σ = some (z, σ) := by
  unfold s_Model_compares_111
  rw [if_pos hz]
section
variable {τ : LH} {B : Nat → Nat} {e b b0 : Nat} {l : Nat → Int32}
theorem m_cmp (h : TM τ B e b b0) (hl : LM τ l) {p0 p1 z : Int32} {d a hh H : Nat} {cs : List Int32} (hd : d ≤ 6) (ha : a ≤ e) (hv : Val l cs z hh) (h1 : hh ≤ H) (h2 : ha9 d + 3 ≤ H) : MB τ l d H (pCmp B e d a cs) (s_Model_compares_12 p0 p1 z (mS τ a (-1) d)) := by
  have g1 := sk_ge (B := B) (e := e) (a := a)
  have g2 := sk_le (B := B) (e := e) (a := a) ha
  have hc := h.ch (a := sk B e a)
  have he := h.e9
  unfold s_Model_compares_12
  rw [mS_11, if_pos rfl, m_look h ha]
  simp only [xb2]
  rw [m_isSign hc]
  simp only
  unfold pCmp
  cases hk : sgn (chA B e (sk B e a)) with
  | none =>
    rw [if_neg (show ¬ (none : Option Int32).isSome = true by simp), if_pos rfl, m_fails]
    simp only
    rw [if_pos (Or.inl rfl)]
    exact ⟨by omega, 0, _, _, Or.inl rfl, rfl⟩
  | some k =>
    have hlt : sk B e a < e := chA_lt (B := B) (fun z => by rw [z] at hk; cases hk)
    rw [if_pos (show (some k).isSome = true from rfl), if_neg (show ¬ (1 : Int32) = 0 by decide)]
    simp only [xl]
    rw [mS_10, nI_1, mS_a]
    have hs := m_sum h hl 16 d (sk B e a + 1) hd (by omega) (by omega)
    have k1 := oc_eq (c := chA B e (sk B e a)) (k := 61) (by omega) (by omega) (by omega)
    have k2 := oc_eq (c := chA B e (sk B e a)) (k := 60) (by omega) (by omega) (by omega)
    have fin : ∀ (r : Int32) (σ : LH), (if oc (chA B e (sk B e a)) = 61 then (if z = r then s_Model_compares_111 p0 p1 1 σ else s_Model_compares_111 p0 p1 0 σ) else (if oc (chA B e (sk B e a)) = 60 then (if r ≤ z then s_Model_compares_111 p0 p1 0 σ else s_Model_compares_111 p0 p1 1 σ) else (if z ≤ r then s_Model_compares_111 p0 p1 0 σ else s_Model_compares_111 p0 p1 1 σ))) = some (jn k z r, σ) ∧ zb (jn k z r) ∧ k ≤ -11 ∧ (k ≠ -20 ∧ k ≠ -21 ∧ k ≠ -22) := by
      intro r σ
      unfold sgn at hk
      by_cases q1 : chA B e (sk B e a) = 61
      · rw [if_pos q1] at hk
        cases hk
        rw [if_pos (show oc (chA B e (sk B e a)) = 61 from k1.mpr q1)]
        have ej : jn (-15) z r = if z = r then 1 else 0 := rfl
        rw [ej]
        by_cases q : z = r
        · rw [if_pos q, if_pos q, m_c111 (Or.inr rfl)]; exact ⟨rfl, Or.inr rfl, by decide, by decide⟩
        · rw [if_neg q, if_neg q, m_c111 (Or.inl rfl)]; exact ⟨rfl, Or.inl rfl, by decide, by decide⟩
      · rw [if_neg q1] at hk
        rw [if_neg (show ¬ oc (chA B e (sk B e a)) = 61 from fun z => q1 (k1.mp z))]
        by_cases q2 : chA B e (sk B e a) = 60
        · rw [if_pos q2] at hk
          cases hk
          rw [if_pos (show oc (chA B e (sk B e a)) = 60 from k2.mpr q2)]
          have ej : jn (-16) z r = if r ≤ z then 0 else 1 := rfl
          rw [ej]
          by_cases q : r ≤ z
          · rw [if_pos q, if_pos q, m_c111 (Or.inl rfl)]; exact ⟨rfl, Or.inl rfl, by decide, by decide⟩
          · rw [if_neg q, if_neg q, m_c111 (Or.inr rfl)]; exact ⟨rfl, Or.inr rfl, by decide, by decide⟩
        · rw [if_neg q2] at hk
          rw [if_neg (show ¬ oc (chA B e (sk B e a)) = 60 from fun z => q2 (k2.mp z))]
          split at hk
          · cases hk
            have ej : jn (-17) z r = if z ≤ r then 0 else 1 := rfl
            rw [ej]
            by_cases q : z ≤ r
            · rw [if_pos q, if_pos q, m_c111 (Or.inl rfl)]; exact ⟨rfl, Or.inl rfl, by decide, by decide⟩
            · rw [if_neg q, if_neg q, m_c111 (Or.inr rfl)]; exact ⟨rfl, Or.inr rfl, by decide, by decide⟩
          · cases hk
    unfold pSeq
    cases hq : pSum B e 16 d (sk B e a + 1) with
    | inl f =>
      rw [hq] at hs
      obtain ⟨f1, v, x, u, f2⟩ := hs
      rw [show s_Model_sum RF (mS τ (sk B e a + 1) (-1) d) = some (v, mX τ x (nI f) u) from f2]
      simp only
      obtain ⟨e1, e2, -⟩ := fin v (mX τ x (nI f) u)
      rw [e1]
      exact ⟨f1, _, x, u, e2, rfl⟩
    | inr q =>
      rw [hq] at hs
      obtain ⟨v, f2, f3⟩ := hs
      rw [show s_Model_sum RF (mS τ (sk B e a + 1) (-1) d) = some (v, mS τ q.1 (-1) d) from f2]
      simp only
      obtain ⟨e1, e2, e3, e4⟩ := fin v (mS τ q.1 (-1) d)
      rw [e1]
      exact ⟨_, e2, rfl, hv.op f3 e3 e4 h1 (by omega)⟩
theorem m_cmp0 (h : TM τ B e b b0) (hl : LM τ l) {d a H : Nat} (hd : d ≤ 6) (ha : a ≤ e) (h2 : ha9 d + 3 ≤ H) : MB τ l d H (pSeq (pSum B e 16 d a) (pCmp B e d)) (s_Model_compares 0 0 (mS τ a (-1) d)) := by
  unfold s_Model_compares
  rw [if_pos rfl]
  have hs := m_sum h hl 16 d a hd (by omega) ha
  have hb := pSum_bd (B := B) (e := e) 16 d a ha
  unfold pSeq
  cases hq : pSum B e 16 d a with
  | inl f =>
    rw [hq] at hs
    obtain ⟨f1, v, x, u, f2⟩ := hs
    rw [show s_Model_sum RF (mS τ a (-1) d) = some (v, mX τ x (nI f) u) from f2]
    simp only [xb2]
    unfold s_Model_compares_12
    rw [mX_11, if_neg (nI_m1 f1)]
    exact ⟨f1, 0, x, u, Or.inl rfl, rfl⟩
  | inr q =>
    rw [hq] at hs hb
    obtain ⟨v, f2, f3⟩ := hs
    rw [show s_Model_sum RF (mS τ a (-1) d) = some (v, mS τ q.1 (-1) d) from f2]
    simp only [xb2]
    exact m_cmp h hl hd hb.2.1 f3 (by omega) h2
theorem m_partL (h : TM τ B e b b0) {rf : LH → Option (Int32 × LH)} {p0 p1 : Int32} {F : Nat → TR} {d hh : Nat} (hb : ∀ a, a ≤ e → Bd e a 0 (F a)) (hF : ∀ a, a ≤ e → MB τ l d hh (F a) (rf (mS τ a (-1) d))) : ∀ (m n a : Nat) (cs : List Int32) (y : Int32), e < m + a → m ≤ n → a ≤ e → zb y → Val l cs y (hh + 1) → MB τ l d (hh + 1) (pLoop B e 38 38 (-18) (-18) F m a cs) (s_Model_part_18 rf p0 p1 n y (mS τ a (-1) d)) := by
  intro m
  induction m with
  | zero => intro n a cs y h1 h2 h3; omega
  | succ m ih =>
    intro n a cs y h1 h2 h3 hz hv
    obtain ⟨n, rfl⟩ : ∃ q, n = q + 1 := ⟨n - 1, by omega⟩
    have g1 := sk_ge (B := B) (e := e) (a := a)
    have g2 := sk_le (B := B) (e := e) (a := a) h3
    have hc := h.ch (a := sk B e a)
    have he := h.e9
    have k1 := oc_eq (c := chA B e (sk B e a)) (k := 38) (by omega) (by omega) (by omega)
    rw [s_Model_part_18]
    unfold s_Model_part_18_b s_Model_part_64 s_Model_part_65 s_Model_part_69
    rw [mS_11, if_pos rfl, m_look h h3]
    simp only [xb2]
    unfold pLoop
    by_cases q1 : chA B e (sk B e a) = 38
    · have hlt : sk B e a < e := chA_lt (B := B) (by omega)
      rw [if_pos (show oc (chA B e (sk B e a)) = 38 from k1.mpr q1), if_pos (Or.inl q1)]
      simp only [xl, if_pos q1]
      rw [mS_10, nI_1, mS_a]
      have hf := hF (sk B e a + 1) (by omega)
      have hbb := hb (sk B e a + 1) (by omega)
      unfold pSeq
      cases hq : F (sk B e a + 1) with
      | inl f =>
        rw [hq] at hf
        obtain ⟨f1, v, x, u, f0, f2⟩ := hf
        rw [f2]
        simp only
        obtain ⟨z1, z2⟩ := zb_and hz f0
        have fin : s_Model_part_18 rf p0 p1 n (jn (-18) y v) (mX τ x (nI f) u) = some (jn (-18) y v, mX τ x (nI f) u) := by
          obtain ⟨n, rfl⟩ : ∃ q, n = q + 1 := ⟨n - 1, by omega⟩
          rw [s_Model_part_18]
          unfold s_Model_part_18_b s_Model_part_69
          rw [mX_11, if_neg (nI_m1 f1), if_pos z2]
        have tot : (if y = 0 then s_Model_part_18 rf p0 p1 n 0 (mX τ x (nI f) u) else (if v = 0 then s_Model_part_18 rf p0 p1 n 0 (mX τ x (nI f) u) else s_Model_part_18 rf p0 p1 n 1 (mX τ x (nI f) u))) = some (jn (-18) y v, mX τ x (nI f) u) := by
          rw [← fin, z1]
          by_cases w1 : y = 0
          · rw [if_pos w1, if_pos w1]
          · rw [if_neg w1, if_neg w1]
            by_cases w2 : v = 0
            · rw [if_pos w2, if_pos w2]
            · rw [if_neg w2, if_neg w2]
        rw [tot]
        exact ⟨f1, _, x, u, z2, rfl⟩
      | inr q =>
        rw [hq] at hf hbb
        obtain ⟨v, f0, f2, f3⟩ := hf
        rw [f2]
        simp only
        obtain ⟨z1, z2⟩ := zb_and hz f0
        have tot : (if y = 0 then s_Model_part_18 rf p0 p1 n 0 (mS τ q.1 (-1) d) else (if v = 0 then s_Model_part_18 rf p0 p1 n 0 (mS τ q.1 (-1) d) else s_Model_part_18 rf p0 p1 n 1 (mS τ q.1 (-1) d))) = s_Model_part_18 rf p0 p1 n (jn (-18) y v) (mS τ q.1 (-1) d) := by
          rw [z1]
          by_cases w1 : y = 0
          · rw [if_pos w1, if_pos w1]
          · rw [if_neg w1, if_neg w1]
            by_cases w2 : v = 0
            · rw [if_pos w2, if_pos w2]
            · rw [if_neg w2, if_neg w2]
        rw [tot]
        exact ih n q.1 _ _ (by have := hbb.1; omega) (by omega) hbb.2.1 z2 (hv.op f3 (by decide) (by decide) (by omega) (by omega))
    · rw [if_neg (show ¬ oc (chA B e (sk B e a)) = 38 from fun z => q1 (k1.mp z)), if_neg (fun z => z.elim q1 q1), if_pos hz]
      exact ⟨y, hz, rfl, hv⟩
theorem m_partS {rf : LH → Option (Int32 × LH)} {p0 p1 : Int32} {d hh : Nat} {r : TR} {L : Nat → List Int32 → TR} {o : Option (Int32 × LH)} (hr : MB τ l d hh r o) (hL : ∀ q y, r = .inr q → zb y → Val l q.2 y hh → MB τ l d (hh + 1) (L q.1 q.2) (s_Model_part_18 rf p0 p1 FUEL y (mS τ q.1 (-1) d))) : MB τ l d (hh + 1) (pSeq r L) (xb2 o fun r2 σ3 => s_Model_part_18 rf p0 p1 FUEL r2 σ3) := by
  cases r with
  | inl f =>
    obtain ⟨f1, v, x, u, f0, f2⟩ := hr
    rw [f2]
    refine ⟨f1, v, x, u, f0, ?_⟩
    simp only [xb2]
    rw [show FUEL = 99999 + 1 from rfl, s_Model_part_18]
    unfold s_Model_part_18_b s_Model_part_69
    rw [mX_11, if_neg (nI_m1 f1), if_pos f0]
  | inr q =>
    obtain ⟨v, f0, f2, f3⟩ := hr
    rw [f2]
    exact hL q v rfl f0 f3
theorem m_conditionL (h : TM τ B e b b0) {rf : LH → Option (Int32 × LH)} {p0 p1 : Int32} {F : Nat → TR} {d hh : Nat} (hb : ∀ a, a ≤ e → Bd e a 0 (F a)) (hF : ∀ a, a ≤ e → MB τ l d hh (F a) (s_Model_part rf 0 0 (mS τ a (-1) d))) : ∀ (m n a : Nat) (cs : List Int32) (y : Int32), e < m + a → m ≤ n → a ≤ e → zb y → Val l cs y (hh + 1) → MB τ l d (hh + 1) (pLoop B e 124 124 (-19) (-19) F m a cs) (s_Model_condition_7 rf p0 p1 n y (mS τ a (-1) d)) := by
  intro m
  induction m with
  | zero => intro n a cs y h1 h2 h3; omega
  | succ m ih =>
    intro n a cs y h1 h2 h3 hz hv
    obtain ⟨n, rfl⟩ : ∃ q, n = q + 1 := ⟨n - 1, by omega⟩
    have g1 := sk_ge (B := B) (e := e) (a := a)
    have g2 := sk_le (B := B) (e := e) (a := a) h3
    have hc := h.ch (a := sk B e a)
    have he := h.e9
    have k1 := oc_eq (c := chA B e (sk B e a)) (k := 124) (by omega) (by omega) (by omega)
    rw [s_Model_condition_7]
    unfold s_Model_condition_7_b s_Model_condition_51 s_Model_condition_56 s_Model_condition_60
    rw [mS_11, if_pos rfl, m_look h h3]
    simp only [xb2]
    unfold pLoop
    by_cases q1 : chA B e (sk B e a) = 124
    · have hlt : sk B e a < e := chA_lt (B := B) (by omega)
      rw [if_pos (show oc (chA B e (sk B e a)) = 124 from k1.mpr q1), if_pos (Or.inl q1)]
      simp only [xl, if_pos q1]
      rw [mS_10, nI_1, mS_a]
      have hf := hF (sk B e a + 1) (by omega)
      have hbb := hb (sk B e a + 1) (by omega)
      unfold pSeq
      cases hq : F (sk B e a + 1) with
      | inl f =>
        rw [hq] at hf
        obtain ⟨f1, v, x, u, f0, f2⟩ := hf
        rw [f2]
        simp only
        obtain ⟨z1, z2⟩ := zb_or hz f0
        have fin : s_Model_condition_7 rf p0 p1 n (jn (-19) y v) (mX τ x (nI f) u) = some (jn (-19) y v, mX τ x (nI f) u) := by
          obtain ⟨n, rfl⟩ : ∃ q, n = q + 1 := ⟨n - 1, by omega⟩
          rw [s_Model_condition_7]
          unfold s_Model_condition_7_b s_Model_condition_60
          rw [mX_11, if_neg (nI_m1 f1), if_pos z2]
        have tot : (if y = 0 then (if v = 0 then s_Model_condition_7 rf p0 p1 n 0 (mX τ x (nI f) u) else s_Model_condition_7 rf p0 p1 n 1 (mX τ x (nI f) u)) else s_Model_condition_7 rf p0 p1 n 1 (mX τ x (nI f) u)) = some (jn (-19) y v, mX τ x (nI f) u) := by
          rw [← fin, z1]
          by_cases w1 : y = 0
          · rw [if_pos w1, if_pos w1]
            by_cases w2 : v = 0
            · rw [if_pos w2, if_pos w2]
            · rw [if_neg w2, if_neg w2]
          · rw [if_neg w1, if_neg w1]
        rw [tot]
        exact ⟨f1, _, x, u, z2, rfl⟩
      | inr q =>
        rw [hq] at hf hbb
        obtain ⟨v, f0, f2, f3⟩ := hf
        rw [f2]
        simp only
        obtain ⟨z1, z2⟩ := zb_or hz f0
        have tot : (if y = 0 then (if v = 0 then s_Model_condition_7 rf p0 p1 n 0 (mS τ q.1 (-1) d) else s_Model_condition_7 rf p0 p1 n 1 (mS τ q.1 (-1) d)) else s_Model_condition_7 rf p0 p1 n 1 (mS τ q.1 (-1) d)) = s_Model_condition_7 rf p0 p1 n (jn (-19) y v) (mS τ q.1 (-1) d) := by
          rw [z1]
          by_cases w1 : y = 0
          · rw [if_pos w1, if_pos w1]
            by_cases w2 : v = 0
            · rw [if_pos w2, if_pos w2]
            · rw [if_neg w2, if_neg w2]
          · rw [if_neg w1, if_neg w1]
        rw [tot]
        exact ih n q.1 _ _ (by have := hbb.1; omega) (by omega) hbb.2.1 z2 (hv.op f3 (by decide) (by decide) (by omega) (by omega))
    · rw [if_neg (show ¬ oc (chA B e (sk B e a)) = 124 from fun z => q1 (k1.mp z)), if_neg (fun z => z.elim q1 q1), if_pos hz]
      exact ⟨y, hz, rfl, hv⟩
theorem m_conditionS {rf : LH → Option (Int32 × LH)} {p0 p1 : Int32} {d hh : Nat} {r : TR} {L : Nat → List Int32 → TR} {o : Option (Int32 × LH)} (hr : MB τ l d hh r o) (hL : ∀ q y, r = .inr q → zb y → Val l q.2 y hh → MB τ l d (hh + 1) (L q.1 q.2) (s_Model_condition_7 rf p0 p1 FUEL y (mS τ q.1 (-1) d))) : MB τ l d (hh + 1) (pSeq r L) (xb2 o fun r2 σ3 => s_Model_condition_7 rf p0 p1 FUEL r2 σ3) := by
  cases r with
  | inl f =>
    obtain ⟨f1, v, x, u, f0, f2⟩ := hr
    rw [f2]
    refine ⟨f1, v, x, u, f0, ?_⟩
    simp only [xb2]
    rw [show FUEL = 99999 + 1 from rfl, s_Model_condition_7]
    unfold s_Model_condition_7_b s_Model_condition_60
    rw [mX_11, if_neg (nI_m1 f1), if_pos f0]
  | inr q =>
    obtain ⟨v, f0, f2, f3⟩ := hr
    rw [f2]
    exact hL q v rfl f0 f3
theorem m_part (h : TM τ B e b b0) {rf : LH → Option (Int32 × LH)} {un : Nat → TR} {d hh : Nat} (hb : ∀ a, a ≤ e → Bd e a 0 (un a)) (hF : ∀ a, a ≤ e → MB τ l d hh (un a) (rf (mS τ a (-1) d))) {a : Nat} (ha : a ≤ e) : MB τ l d (hh + 1) (pPart B e un (un a)) (s_Model_part rf 0 0 (mS τ a (-1) d)) := by
  have he := h.e9
  unfold s_Model_part s_Model_part_17 pPart
  rw [if_pos rfl]
  refine m_partS (hF a ha) (fun q y hq hz hv => ?_)
  have hbb := hb a ha
  rw [hq] at hbb
  exact m_partL h hb hF (e + 1) FUEL q.1 q.2 y (by have := hbb.1; omega) (by unfold FUEL; omega) hbb.2.1 hz (hv.up (by omega))
theorem m_part1 (h : TM τ B e b b0) {rf : LH → Option (Int32 × LH)} {un : Nat → TR} {d hh : Nat} {p1 : Int32} (hb : ∀ a, a ≤ e → Bd e a 0 (un a)) (hF : ∀ a, a ≤ e → MB τ l d hh (un a) (rf (mS τ a (-1) d))) {a a0 : Nat} {r : TR} (hr : MB τ l d hh r (s_Model_compares 1 p1 (mS τ a (-1) d))) (hrb : Bd e a0 0 r) : MB τ l d (hh + 1) (pPart B e un r) (s_Model_part rf 1 p1 (mS τ a (-1) d)) := by
  have he := h.e9
  unfold s_Model_part s_Model_part_17 pPart
  rw [if_neg (show ¬ (1 : Int32) = 0 by decide)]
  refine m_partS hr (fun q y hq hz hv => ?_)
  rw [hq] at hrb
  exact m_partL h hb hF (e + 1) FUEL q.1 q.2 y (by have := hrb.1; omega) (by unfold FUEL; omega) hrb.2.1 hz (hv.up (by omega))
theorem m_cond (h : TM τ B e b b0) {rf : LH → Option (Int32 × LH)} {un : Nat → TR} {d hh a0 a : Nat} {p0 p1 : Int32} {r : TR} (hb : ∀ a, a ≤ e → Bd e a 0 (un a)) (hF : ∀ a, a ≤ e → MB τ l d hh (un a) (rf (mS τ a (-1) d))) (hr : MB τ l d (hh + 1) (pPart B e un r) (s_Model_part rf p0 p1 (mS τ a (-1) d))) (hrb : Bd e a0 0 r) : MB τ l d (hh + 2) (pCnd B e un r) (s_Model_condition rf p0 p1 (mS τ a (-1) d)) := by
  have he := h.e9
  unfold s_Model_condition pCnd
  refine m_conditionS hr (fun q y hq hz hv => ?_)
  have hbb := pPart_bd (B := B) hb hrb
  rw [hq] at hbb
  exact m_conditionL h (fun a ha => pPart_bd hb (hb a ha)) (fun a ha => m_part h hb hF ha) (e + 1) FUEL q.1 q.2 y (by have := hbb.1; omega) (by unfold FUEL; omega) hbb.2.1 hz (hv.up (by omega))
theorem m_unit (h : TM τ B e b b0) (hl : LM τ l) : ∀ (n d a : Nat), d ≤ 6 → 7 ≤ n + d → a ≤ e → MB τ l d (hu9 d) (pUnit B e n d a) (s_Model_unit n (mS τ a (-1) d)) := by
  have he := h.e9
  intro n
  induction n with
  | zero => intro d a h1 h2; omega
  | succ n ih =>
    intro d a hd hn ha
    have g1 := sk_ge (B := B) (e := e) (a := a)
    have g2 := sk_le (B := B) (e := e) (a := a) ha
    have hc := h.ch (a := sk B e a)
    have k1 := oc_eq (c := chA B e (sk B e a)) (k := 33) (by omega) (by omega) (by omega)
    have k2 := oc_eq (c := chA B e (sk B e a)) (k := 40) (by omega) (by omega) (by omega)
    show MB τ l d (hu9 d) _ (s_Model_unit_b (s_Model_unit n) (mS τ a (-1) d))
    unfold s_Model_unit_b s_Model_unit_44 pUnit
    rw [m_look h ha]
    simp only [xb2]
    by_cases q1 : chA B e (sk B e a) = 33
    · have hlt : sk B e a < e := chA_lt (B := B) (by omega)
      rw [if_pos (show oc (chA B e (sk B e a)) = 33 from k1.mpr q1), if_pos q1, m_goesIn hd]
      by_cases q6 : d = 6
      · simp only [if_pos q6]
        rw [if_pos trivial]
        exact ⟨by omega, 0, _, _, Or.inl rfl, rfl⟩
      · simp only [if_neg q6]
        rw [if_neg (show ¬ (1 : Int32) = 0 by decide)]
        have hf := ih (d + 1) (sk B e a + 1) (by omega) (by omega) (by omega)
        unfold pSeq
        cases hq : pUnit B e n (d + 1) (sk B e a + 1) with
        | inl f =>
          rw [hq] at hf
          obtain ⟨f1, v, x, u, f0, f2⟩ := hf
          rw [f2]
          simp only [xl]
          rw [mX_12, mX_d]
          obtain ⟨z1, z2⟩ := zb_not f0
          refine ⟨f1, 1 - v, x, u - 1, z2, ?_⟩
          rw [z1]
          by_cases w : v = 0
          · rw [if_pos w, if_pos (show zb 1 from Or.inr rfl), if_pos w]
          · rw [if_neg w, if_pos (show zb 0 from Or.inl rfl), if_neg w]
        | inr r =>
          rw [hq] at hf
          obtain ⟨v, f0, f2, f3⟩ := hf
          rw [f2]
          simp only [xl]
          rw [mS_12, nI_pred, mS_d]
          obtain ⟨z1, z2⟩ := zb_not f0
          refine ⟨1 - v, z2, ?_, f3.no.up (by unfold hu9; omega)⟩
          rw [z1]
          by_cases w : v = 0
          · rw [if_pos w, if_pos (show zb 1 from Or.inr rfl), if_pos w]
          · rw [if_neg w, if_pos (show zb 0 from Or.inl rfl), if_neg w]
    · rw [if_neg (show ¬ oc (chA B e (sk B e a)) = 33 from fun z => q1 (k1.mp z)), if_neg q1]
      by_cases q2 : chA B e (sk B e a) = 40
      · have hlt : sk B e a < e := chA_lt (B := B) (by omega)
        rw [if_pos (show oc (chA B e (sk B e a)) = 40 from k2.mpr q2), if_pos q2, m_goesIn hd]
        by_cases q6 : d = 6
        · simp only [if_pos q6]
          rw [if_pos trivial]
          exact ⟨by omega, 0, _, _, Or.inl rfl, rfl⟩
        · simp only [if_neg q6]
          rw [if_neg (show ¬ (1 : Int32) = 0 by decide)]
          have hb0 : ∀ a, a ≤ e → Bd e a 0 (pUnit B e n (d + 1) a) := fun a ha => pUnit_bd n (d + 1) a ha
          have hF : ∀ a, a ≤ e → MB τ l (d + 1) (hu9 (d + 1)) (pUnit B e n (d + 1) a) (s_Model_unit n (mS τ a (-1) (d + 1))) := fun a ha => ih (d + 1) a (by omega) (by omega) ha
          have hf := m_cond (p0 := 0) (p1 := 0) h hb0 hF (m_part h hb0 hF (show sk B e a + 1 ≤ e by omega)) (hb0 (sk B e a + 1) (by omega))
          have hb := pCnd_bd (B := B) hb0 (hb0 (sk B e a + 1) (by omega))
          unfold pShut
          cases hq : pCnd B e (pUnit B e n (d + 1)) (pUnit B e n (d + 1) (sk B e a + 1)) with
          | inl f =>
            rw [hq] at hf
            obtain ⟨f1, v, x, u, f0, f2⟩ := hf
            rw [f2]
            simp only
            rw [mX_takesF f1]
            simp only
            rw [if_pos trivial]
            exact ⟨f1, 0, x, u, Or.inl rfl, rfl⟩
          | inr r =>
            rw [hq] at hf hb
            obtain ⟨v, f0, f2, f3⟩ := hf
            rw [f2]
            simp only
            rw [show (41 : Int32) = nI 41 from rfl, m_takes h hb.2.1 (by omega) (by omega)]
            by_cases q41 : chA B e (sk B e r.1) = 41
            · simp only [if_pos q41]
              rw [if_neg (show ¬ (1 : Int32) = 0 by decide)]
              simp only [xl]
              rw [mS_12, nI_pred, mS_d, if_pos f0]
              exact ⟨v, f0, rfl, f3.up (by unfold hu9; omega)⟩
            · simp only [if_neg q41]
              rw [if_pos trivial]
              have g3 := sk_le (B := B) (e := e) (a := r.1) hb.2.1
              exact ⟨by omega, 0, _, _, Or.inl rfl, rfl⟩
      · rw [if_neg (show ¬ oc (chA B e (sk B e a)) = 40 from fun z => q2 (k2.mp z)), if_neg q2]
        have hf := m_cmp0 h hl (d := d) (a := sk B e a) (H := hu9 d) hd g2 (by unfold ha9 hu9; omega)
        cases hq : pSeq (pSum B e 16 d (sk B e a)) (pCmp B e d) with
        | inl f =>
          rw [hq] at hf
          obtain ⟨f1, v, x, u, f0, f2⟩ := hf
          rw [f2]
          simp only
          rw [if_pos f0]
          exact ⟨f1, v, x, u, f0, rfl⟩
        | inr r =>
          rw [hq] at hf
          obtain ⟨v, f0, f2, f3⟩ := hf
          rw [f2]
          simp only
          rw [if_pos f0]
          exact ⟨v, f0, rfl, f3⟩
end
