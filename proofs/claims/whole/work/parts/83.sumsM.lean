/-! tastes, the model: terms, sums -/
theorem lg_z {j : Int64} : lg_cmp j 0 = 0 ↔ j = 0 := by
  unfold lg_cmp
  by_cases q : j = 0
  · rw [q]; exact ⟨fun _ => rfl, fun _ => by decide⟩
  · refine ⟨fun z => ?_, fun z => absurd z q⟩
    by_cases q1 : j > 0
    · rw [if_pos q1] at z; exact absurd z (by decide)
    · rw [if_neg q1, if_neg q] at z; exact absurd z (by decide)
theorem i64_z {w : Int32} : w.toInt64 = 0 ↔ w = 0 := by
  constructor
  · intro h
    have := congrArg Int64.toInt h
    rw [Int32.toInt_toInt64] at this
    exact Int32.toInt_inj.mp this
  · intro h; rw [h]; rfl
theorem m_t45 {rf : LH → Option (Int32 × LH)} {rec5 : Int32 → LH → Option (Int32 × LH)} {τ : LH} {y z : Int32} {a d : Nat} {f : Int32} (hz : z = 0 ∨ z = 1) : s_Model_term_45 rf rec5 y z (mS τ a f d) = xb2 (s_Model_atom rf (mS τ (a + 1) f d)) fun r σ => rec5 (jn (if z = 1 then -13 else -14) y r) σ := by
  unfold s_Model_term_45 s_Model_term_87
  simp only [xl]
  rw [mS_10, nI_1, mS_a]
  cases s_Model_atom rf (mS τ (a + 1) f d) with
  | none => rfl
  | some q =>
    simp only [xb2]
    rcases hz with rfl | rfl
    · rw [if_pos rfl, if_neg (show ¬ (0 : Int32) = 1 by decide)]
      by_cases q1 : q.1 = 0
      · rw [if_pos (lg_z.mpr (i64_z.mpr q1)), w_bnd]
        simp only
        unfold jn
        rw [if_neg (by decide), if_neg (by decide), if_neg (by decide), if_neg (by decide), if_pos rfl, if_pos q1]
      · rw [if_neg (fun z => q1 (i64_z.mp (lg_z.mp z))), if_pos (fun z => q1 (i64_z.mp z)), w_bnd]
        simp only
        unfold jn
        rw [if_neg (by decide), if_neg (by decide), if_neg (by decide), if_neg (by decide), if_pos rfl, if_neg q1]
    · rw [if_neg (show ¬ (1 : Int32) = 0 by decide), if_pos rfl, w_bnd]
      simp only
      unfold jn
      rw [if_neg (by decide), if_neg (by decide), if_neg (by decide), if_neg (by decide), if_neg (by decide), if_pos rfl]
theorem m_s45 {rf : LH → Option (Int32 × LH)} {rec5 : Int32 → LH → Option (Int32 × LH)} {τ : LH} {y z : Int32} {a d : Nat} {f : Int32} (hz : z = 0 ∨ z = 1) : s_Model_sum_45 rf rec5 y z (mS τ a f d) = xb2 (s_Model_term rf (mS τ (a + 1) f d)) fun r σ => rec5 (jn (if z = 1 then -11 else -12) y r) σ := by
  unfold s_Model_sum_45 s_Model_sum_77
  simp only [xl]
  rw [mS_10, nI_1, mS_a]
  cases s_Model_term rf (mS τ (a + 1) f d) with
  | none => rfl
  | some q =>
    simp only [xb2]
    rcases hz with rfl | rfl
    · rw [if_pos rfl, if_neg (show ¬ (0 : Int32) = 1 by decide), w_bnd]
      simp only
      unfold jn
      rw [if_neg (by decide), if_neg (by decide), if_neg (by decide), if_neg (by decide), if_neg (by decide), if_neg (by decide), if_pos rfl]
    · rw [if_neg (show ¬ (1 : Int32) = 0 by decide), if_pos rfl, w_bnd]
      simp only
      unfold jn
      rw [if_neg (by decide), if_neg (by decide), if_neg (by decide), if_neg (by decide), if_neg (by decide), if_neg (by decide), if_neg (by decide), if_pos rfl]
section
variable {τ : LH} {B : Nat → Nat} {e b b0 : Nat} {l : Nat → Int32}
theorem m_termL (h : TM τ B e b b0) {rf : LH → Option (Int32 × LH)} {F : Nat → TR} {d hh : Nat} (hb : ∀ a, a ≤ e → Bd e a 0 (F a)) (hF : ∀ a, a ≤ e → MO τ l d hh (F a) (s_Model_atom rf (mS τ a (-1) d))) : ∀ (m n a : Nat) (cs : List Int32) (y : Int32), e < m + a → m ≤ n → a ≤ e → Val l cs y (hh + 1) → MO τ l d (hh + 1) (pLoop B e 42 47 (-13) (-14) F m a cs) (s_Model_term_5 rf n y (mS τ a (-1) d)) := by
  intro m
  induction m with
  | zero => intro n a cs y h1 h2 h3; omega
  | succ m ih =>
    intro n a cs y h1 h2 h3 hv
    obtain ⟨n, rfl⟩ : ∃ q, n = q + 1 := ⟨n - 1, by omega⟩
    have g1 := sk_ge (B := B) (e := e) (a := a)
    have g2 := sk_le (B := B) (e := e) (a := a) h3
    have hc := h.ch (a := sk B e a)
    have he := h.e9
    have k1 := oc_eq (c := chA B e (sk B e a)) (k := 42) (by omega) (by omega) (by omega)
    have k2 := oc_eq (c := chA B e (sk B e a)) (k := 47) (by omega) (by omega) (by omega)
    have fin : ∀ z : Int32, (z = 0 ∨ z = 1) → sk B e a < e → MO τ l d (hh + 1) (pSeq (F (sk B e a + 1)) (fun a' cs' => pLoop B e 42 47 (-13) (-14) F m a' (cs ++ cs' ++ [if z = 1 then -13 else -14]))) (s_Model_term_45 rf (s_Model_term_5 rf n) y z (mS τ (sk B e a) (-1) d)) := by
      intro z hz hlt
      rw [m_t45 hz]
      have hf := hF (sk B e a + 1) (by omega)
      have hbb := hb (sk B e a + 1) (by omega)
      cases hq : F (sk B e a + 1) with
      | inl f =>
        rw [hq] at hf
        obtain ⟨f1, v, x, u, f2⟩ := hf
        rw [f2]
        refine ⟨f1, jn (if z = 1 then -13 else -14) y v, x, u, ?_⟩
        obtain ⟨n, rfl⟩ : ∃ q, n = q + 1 := ⟨n - 1, by omega⟩
        simp only [xb2]
        rw [s_Model_term_5]
        unfold s_Model_term_5_b s_Model_term_94
        rw [mX_11, if_neg (nI_m1 f1)]
      | inr q =>
        rw [hq] at hf hbb
        obtain ⟨v, f2, f3⟩ := hf
        rw [f2]
        simp only [xb2, pSeq]
        exact ih n q.1 _ _ (by have := hbb.1; omega) (by omega) hbb.2.1 (hv.op f3 (by rcases hz with rfl | rfl <;> decide) (by rcases hz with rfl | rfl <;> decide) (by omega) (by omega))
    rw [s_Model_term_5]
    unfold s_Model_term_5_b s_Model_term_31 s_Model_term_94
    rw [mS_11, if_pos rfl, m_look h h3]
    simp only [xb2]
    unfold pLoop
    by_cases q1 : chA B e (sk B e a) = 42
    · have hlt : sk B e a < e := chA_lt (B := B) (by omega)
      rw [if_pos (show oc (chA B e (sk B e a)) = 42 from k1.mpr q1), m_look h g2, sk_sk h3]
      simp only
      rw [if_pos (show oc (chA B e (sk B e a)) = 42 from k1.mpr q1), if_pos (Or.inl q1)]
      have := fin 1 (Or.inr rfl) hlt
      simp only [if_pos q1]
      exact this
    · rw [if_neg (show ¬ oc (chA B e (sk B e a)) = 42 from fun z => q1 (k1.mp z)), m_look h g2, sk_sk h3]
      simp only
      by_cases q2 : chA B e (sk B e a) = 47
      · have hlt : sk B e a < e := chA_lt (B := B) (by omega)
        rw [if_pos (show oc (chA B e (sk B e a)) = 47 from k2.mpr q2), m_look h g2, sk_sk h3]
        simp only
        rw [if_neg (show ¬ oc (chA B e (sk B e a)) = 42 from fun z => q1 (k1.mp z)), if_pos (Or.inr q2)]
        have := fin 0 (Or.inl rfl) hlt
        simp only [if_neg q1]
        exact this
      · rw [if_neg (show ¬ oc (chA B e (sk B e a)) = 47 from fun z => q2 (k2.mp z)), if_neg (fun z => z.elim q1 q2)]
        exact ⟨y, rfl, hv⟩
theorem m_termS {rf : LH → Option (Int32 × LH)} {d hh : Nat} {r : TR} {L : Nat → List Int32 → TR} {o : Option (Int32 × LH)} (hr : MO τ l d hh r o) (hL : ∀ q y, r = .inr q → Val l q.2 y hh → MO τ l d (hh + 1) (L q.1 q.2) (s_Model_term_5 rf FUEL y (mS τ q.1 (-1) d))) : MO τ l d (hh + 1) (pSeq r L) (xb2 o fun r2 σ3 => s_Model_term_5 rf FUEL r2 σ3) := by
  cases r with
  | inl f =>
    obtain ⟨f1, v, x, u, f2⟩ := hr
    rw [f2]
    refine ⟨f1, v, x, u, ?_⟩
    simp only [xb2]
    rw [show FUEL = 99999 + 1 from rfl, s_Model_term_5]
    unfold s_Model_term_5_b s_Model_term_94
    rw [mX_11, if_neg (nI_m1 f1)]
  | inr q =>
    obtain ⟨v, f2, f3⟩ := hr
    rw [f2]
    exact hL q v rfl f3
theorem m_sumL (h : TM τ B e b b0) {rf : LH → Option (Int32 × LH)} {F : Nat → TR} {d hh : Nat} (hb : ∀ a, a ≤ e → Bd e a 0 (F a)) (hF : ∀ a, a ≤ e → MO τ l d hh (F a) (s_Model_term rf (mS τ a (-1) d))) : ∀ (m n a : Nat) (cs : List Int32) (y : Int32), e < m + a → m ≤ n → a ≤ e → Val l cs y (hh + 1) → MO τ l d (hh + 1) (pLoop B e 43 45 (-11) (-12) F m a cs) (s_Model_sum_5 rf n y (mS τ a (-1) d)) := by
  intro m
  induction m with
  | zero => intro n a cs y h1 h2 h3; omega
  | succ m ih =>
    intro n a cs y h1 h2 h3 hv
    obtain ⟨n, rfl⟩ : ∃ q, n = q + 1 := ⟨n - 1, by omega⟩
    have g1 := sk_ge (B := B) (e := e) (a := a)
    have g2 := sk_le (B := B) (e := e) (a := a) h3
    have hc := h.ch (a := sk B e a)
    have he := h.e9
    have k1 := oc_eq (c := chA B e (sk B e a)) (k := 43) (by omega) (by omega) (by omega)
    have k2 := oc_eq (c := chA B e (sk B e a)) (k := 45) (by omega) (by omega) (by omega)
    have fin : ∀ z : Int32, (z = 0 ∨ z = 1) → sk B e a < e → MO τ l d (hh + 1) (pSeq (F (sk B e a + 1)) (fun a' cs' => pLoop B e 43 45 (-11) (-12) F m a' (cs ++ cs' ++ [if z = 1 then -11 else -12]))) (s_Model_sum_45 rf (s_Model_sum_5 rf n) y z (mS τ (sk B e a) (-1) d)) := by
      intro z hz hlt
      rw [m_s45 hz]
      have hf := hF (sk B e a + 1) (by omega)
      have hbb := hb (sk B e a + 1) (by omega)
      cases hq : F (sk B e a + 1) with
      | inl f =>
        rw [hq] at hf
        obtain ⟨f1, v, x, u, f2⟩ := hf
        rw [f2]
        refine ⟨f1, jn (if z = 1 then -11 else -12) y v, x, u, ?_⟩
        obtain ⟨n, rfl⟩ : ∃ q, n = q + 1 := ⟨n - 1, by omega⟩
        simp only [xb2]
        rw [s_Model_sum_5]
        unfold s_Model_sum_5_b s_Model_sum_84
        rw [mX_11, if_neg (nI_m1 f1)]
      | inr q =>
        rw [hq] at hf hbb
        obtain ⟨v, f2, f3⟩ := hf
        rw [f2]
        simp only [xb2, pSeq]
        exact ih n q.1 _ _ (by have := hbb.1; omega) (by omega) hbb.2.1 (hv.op f3 (by rcases hz with rfl | rfl <;> decide) (by rcases hz with rfl | rfl <;> decide) (by omega) (by omega))
    rw [s_Model_sum_5]
    unfold s_Model_sum_5_b s_Model_sum_31 s_Model_sum_84
    rw [mS_11, if_pos rfl, m_look h h3]
    simp only [xb2]
    unfold pLoop
    by_cases q1 : chA B e (sk B e a) = 43
    · have hlt : sk B e a < e := chA_lt (B := B) (by omega)
      rw [if_pos (show oc (chA B e (sk B e a)) = 43 from k1.mpr q1), m_look h g2, sk_sk h3]
      simp only
      rw [if_pos (show oc (chA B e (sk B e a)) = 43 from k1.mpr q1), if_pos (Or.inl q1)]
      have := fin 1 (Or.inr rfl) hlt
      simp only [if_pos q1]
      exact this
    · rw [if_neg (show ¬ oc (chA B e (sk B e a)) = 43 from fun z => q1 (k1.mp z)), m_look h g2, sk_sk h3]
      simp only
      by_cases q2 : chA B e (sk B e a) = 45
      · have hlt : sk B e a < e := chA_lt (B := B) (by omega)
        rw [if_pos (show oc (chA B e (sk B e a)) = 45 from k2.mpr q2), m_look h g2, sk_sk h3]
        simp only
        rw [if_neg (show ¬ oc (chA B e (sk B e a)) = 43 from fun z => q1 (k1.mp z)), if_pos (Or.inr q2)]
        have := fin 0 (Or.inl rfl) hlt
        simp only [if_neg q1]
        exact this
      · rw [if_neg (show ¬ oc (chA B e (sk B e a)) = 45 from fun z => q2 (k2.mp z)), if_neg (fun z => z.elim q1 q2)]
        exact ⟨y, rfl, hv⟩
theorem m_sumS {rf : LH → Option (Int32 × LH)} {d hh : Nat} {r : TR} {L : Nat → List Int32 → TR} {o : Option (Int32 × LH)} (hr : MO τ l d hh r o) (hL : ∀ q y, r = .inr q → Val l q.2 y hh → MO τ l d (hh + 1) (L q.1 q.2) (s_Model_sum_5 rf FUEL y (mS τ q.1 (-1) d))) : MO τ l d (hh + 1) (pSeq r L) (xb2 o fun r2 σ3 => s_Model_sum_5 rf FUEL r2 σ3) := by
  cases r with
  | inl f =>
    obtain ⟨f1, v, x, u, f2⟩ := hr
    rw [f2]
    refine ⟨f1, v, x, u, ?_⟩
    simp only [xb2]
    rw [show FUEL = 99999 + 1 from rfl, s_Model_sum_5]
    unfold s_Model_sum_5_b s_Model_sum_84
    rw [mX_11, if_neg (nI_m1 f1)]
  | inr q =>
    obtain ⟨v, f2, f3⟩ := hr
    rw [f2]
    exact hL q v rfl f3
theorem m_term (h : TM τ B e b b0) (hl : LM τ l) {rf : LH → Option (Int32 × LH)} {prf : Nat → Nat → TR} (hp : ∀ d a, a ≤ e → Bd e a 0 (prf d a)) {d : Nat} (hd : d ≤ 6) (hrf : d < 6 → ∀ a, a ≤ e → MO τ l (d + 1) (3 * (6 - d)) (prf (d + 1) a) (rf (mS τ a (-1) (d + 1)))) {a : Nat} (ha : a ≤ e) : MO τ l d (ha9 d + 1) (pTerm B e prf d a) (s_Model_term rf (mS τ a (-1) d)) := by
  have he := h.e9
  unfold pTerm s_Model_term
  refine m_termS (m_atom h hl hp hd hrf ha) (fun q y hq hv => ?_)
  have hb := pAtom_bd (B := B) hp (d := d) ha
  rw [hq] at hb
  exact m_termL h (fun a ha => pAtom_bd hp ha) (fun a ha => m_atom h hl hp hd hrf ha) (e + 1) FUEL q.1 q.2 y (by have := hb.1; omega) (by unfold FUEL; omega) hb.2.1 (hv.up (by omega))
theorem m_sum (h : TM τ B e b b0) (hl : LM τ l) : ∀ (n d a : Nat), d ≤ 6 → 7 ≤ n + d → a ≤ e → MO τ l d (ha9 d + 2) (pSum B e n d a) (s_Model_sum n (mS τ a (-1) d)) := by
  have he := h.e9
  intro n
  induction n with
  | zero => intro d a h1 h2; omega
  | succ n ih =>
    intro d a hd hn ha
    have hrf : d < 6 → ∀ a, a ≤ e → MO τ l (d + 1) (3 * (6 - d)) (pSum B e n (d + 1) a) (s_Model_sum n (mS τ a (-1) (d + 1))) := fun hd2 a ha => by
      have := ih (d + 1) a (by omega) (by omega) ha
      rw [show 3 * (6 - d) = ha9 (d + 1) + 2 by unfold ha9; omega]
      exact this
    have hb0 : ∀ d a, a ≤ e → Bd e a 0 (pSum B e n d a) := fun d a ha => pSum_bd n d a ha
    unfold pSum
    show MO τ l d (ha9 d + 1 + 1) _ (s_Model_sum_b (s_Model_sum n) (mS τ a (-1) d))
    unfold s_Model_sum_b
    refine m_sumS (m_term h hl hb0 hd hrf ha) (fun q y hq hv => ?_)
    have hb := pTerm_bd (B := B) hb0 (d := d) ha
    rw [hq] at hb
    exact m_sumL h (fun a ha => pTerm_bd hb0 ha) (fun a ha => m_term h hl hb0 hd hrf ha) (e + 1) FUEL q.1 q.2 y (by have := hb.1; omega) (by unfold FUEL; omega) hb.2.1 (hv.up (by omega))
end
