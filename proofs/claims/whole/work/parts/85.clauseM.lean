/-! tastes, the model: clauses, a text gone through -/
def evl (l : Nat → Int32) (cs : List Int32) : Int32 := match exs l cs [] with
  | some (v :: _) => v
  | _ => 0
theorem Val.ev {l : Nat → Int32} {cs : List Int32} {v : Int32} {h : Nat} (H : Val l cs v h) (hh : h ≤ 64) : evl l cs = v := by
  unfold evl
  rw [H [] (by show 0 + h ≤ 64; omega)]
def cdV (l : Nat → Int32) (c : Option (List Int32)) : Int32 := match c with
  | none => 1
  | some c => evl l c
/-- what a taste's clauses are worth -/
def wOf (l : Nat → Int32) : CL → Int32
  | [] => 0
  | q :: r => if cdV l q.1 = 0 then wOf l r else evl l q.2
def fdOf (l : Nat → Int32) : CL → Int32
  | [] => 0
  | q :: r => if cdV l q.1 = 0 then fdOf l r else 1
theorem fdOf_app {l : Nat → Int32} {q : Option (List Int32) × List Int32} : ∀ (cl : CL), fdOf l (cl ++ [q]) = (if fdOf l cl = 0 then (if cdV l q.1 = 0 then 0 else 1) else 1) ∧ wOf l (cl ++ [q]) = (if fdOf l cl = 0 then (if cdV l q.1 = 0 then 0 else evl l q.2) else wOf l cl) ∧ (fdOf l cl = 0 → wOf l cl = 0) := by
  intro cl
  induction cl with
  | nil => exact ⟨rfl, rfl, fun _ => rfl⟩
  | cons p r ih =>
    obtain ⟨h1, h2, h3⟩ := ih
    show (if cdV l p.1 = 0 then fdOf l (r ++ [q]) else 1) = (if (if cdV l p.1 = 0 then fdOf l r else 1) = 0 then (if cdV l q.1 = 0 then 0 else 1) else 1) ∧ (if cdV l p.1 = 0 then wOf l (r ++ [q]) else evl l p.2) = (if (if cdV l p.1 = 0 then fdOf l r else 1) = 0 then (if cdV l q.1 = 0 then 0 else evl l q.2) else (if cdV l p.1 = 0 then wOf l r else evl l p.2)) ∧ ((if cdV l p.1 = 0 then fdOf l r else 1) = 0 → (if cdV l p.1 = 0 then wOf l r else evl l p.2) = 0)
    by_cases q1 : cdV l p.1 = 0
    · simp only [if_pos q1]
      exact ⟨h1, h2, h3⟩
    · simp only [if_neg q1]
      rw [if_neg (show ¬ (1 : Int32) = 0 by decide), if_neg (show ¬ (1 : Int32) = 0 by decide)]
      exact ⟨rfl, rfl, fun z => absurd z (by decide)⟩
theorem mS_o {τ : LH} {a d j : Nat} {f v : Int32} (hj : j ≠ 10 ∧ j ≠ 11 ∧ j ≠ 12) : stI (mS τ a f d) 570 j v = mS (stI τ 570 j v) a f d := by
  unfold mS
  rw [stI_cm (i := 12) (j := j) (fun z => hj.2.2 z.symm), stI_cm (i := 11) (j := j) (fun z => hj.2.1 z.symm), stI_cm (i := 10) (j := j) (fun z => hj.1 z.symm)]
/-- a clause more is worked out -/
def upC (l : Nat → Int32) (q : Option (List Int32) × List Int32) (τ : LH) : LH := if τ.1 570 17 = 0 then (if cdV l q.1 = 0 then τ else stI (stI τ 570 17 1) 570 14 (evl l q.2)) else τ
theorem TM.o {τ : LH} {B : Nat → Nat} {e b b0 j : Nat} {v : Int32} (h : TM τ B e b b0) (hj : j ≠ 8 ∧ j ≠ 9) : TM (stI τ 570 j v) B e b b0 := by
  obtain ⟨h1, h2, h3, h4, h5⟩ := h
  refine ⟨h1, h2, ?_, ?_, fun i hi => ?_⟩
  · rw [stI_570, if_neg (fun z => hj.1 z.symm)]; exact h3
  · rw [stI_570, if_neg (fun z => hj.2 z.symm)]; exact h4
  · rw [stI_n (by omega)]; exact h5 i hi
theorem LM.o {τ : LH} {l : Nat → Int32} {j : Nat} {v : Int32} (h : LM τ l) : LM (stI τ 570 j v) l := fun c i hc => by rw [stI_n (by omega)]; exact h c i hc
section
variable {τ : LH} {B : Nat → Nat} {e b b0 : Nat} {l : Nat → Int32}
/-- a clause's codes run -/
def WFq (l : Nat → Int32) (q : Option (List Int32) × List Int32) : Prop := (∀ c, q.1 = some c → ∃ v, exs l c [] = some [v]) ∧ ∃ v, exs l q.2 [] = some [v]
/-- what comes of a clause -/
def MC (τ : LH) (l : Nat → Int32) (r : TC) (o : Option LH) : Prop := match r with
  | .inl f => f < 2 ^ 31 ∧ ∃ x y, o = some (mX τ x (nI f) y)
  | .inr q => o = some (mS (upC l q.2 τ) q.1 (-1) 0) ∧ WFq l q.2
theorem m_c134 {y2 y3 : Int32} {q : Nat × Option (List Int32) × List Int32} (hl : τ.1 570 13 = 121) (h2 : y2 = cdV l q.2.1) (h3 : y3 = evl l q.2.2) : s_Model_clause_134 121 y2 y3 (mS τ q.1 (-1) 0) = some (mS (upC l q.2 τ) q.1 (-1) 0) := by
  unfold s_Model_clause_134 s_Model_clause_161 upC
  rw [mS_11, if_pos rfl, mS_f (j := 17) (by omega), mS_f (j := 13) (by omega), hl, ← h2, ← h3]
  by_cases q1 : τ.1 570 17 = 0
  · rw [if_pos q1, if_pos q1, if_pos rfl]
    by_cases q2 : y2 = 0
    · rw [if_pos q2, if_pos q2]
    · rw [if_neg q2, if_neg q2]
      simp only [xl]
      rw [mS_o (j := 17) (by omega), mS_o (j := 14) (by omega)]
  · rw [if_neg q1, if_neg q1]
theorem m_c134F {y1 y2 y3 x y : Int32} {g : Nat} (hg : g < 2 ^ 31) : s_Model_clause_134 y1 y2 y3 (mX τ x (nI g) y) = some (mX τ x (nI g) y) := by
  unfold s_Model_clause_134 s_Model_clause_161
  rw [mX_11, if_neg (nI_m1 hg)]
theorem m_tail (h : TM τ B e b b0) (hl : LM τ l) (h13 : τ.1 570 13 = 121) {r : TR} {o : Option (Int32 × LH)} {hh a0 : Nat} (hh64 : hh ≤ 64) (hr : MB τ l 0 hh r o) (hb : Bd e a0 0 r) : MC τ l (pTail B e r) (xb2 o fun r21 σ22 => xb2 (s_Model_takes 63 σ22) fun r24 σ25 => if r24 = 0 then some σ25 else xb2 (s_Model_sum RF σ25) fun r28 σ29 => s_Model_clause_134 121 r21 r28 σ29) := by
  have he := h.e9
  cases r with
  | inl f =>
    obtain ⟨f1, v, x, u, f0, f2⟩ := hr
    rw [f2]
    simp only [xb2]
    rw [mX_takesF f1]
    simp only
    rw [if_pos trivial]
    exact ⟨f1, x, u, rfl⟩
  | inr q =>
    obtain ⟨v, f0, f2, f3⟩ := hr
    rw [f2]
    simp only [xb2]
    have g3 := sk_le (B := B) (e := e) (a := q.1) hb.2.1
    rw [show (63 : Int32) = nI 63 from rfl, m_takes h hb.2.1 (by omega) (by omega)]
    unfold pTail
    by_cases q63 : chA B e (sk B e q.1) = 63
    · have hlt : sk B e q.1 < e := chA_lt (B := B) (by omega)
      simp only [if_pos q63]
      rw [if_neg (show ¬ (1 : Int32) = 0 by decide)]
      have hs := m_sum h hl 16 0 (sk B e q.1 + 1) (by omega) (by omega) (by omega)
      cases hq : pSum B e 16 0 (sk B e q.1 + 1) with
      | inl f =>
        rw [hq] at hs
        obtain ⟨f1, w, x, u, f5⟩ := hs
        rw [show s_Model_sum RF (mS τ (sk B e q.1 + 1) (-1) 0) = some (w, mX τ x (nI f) u) from f5]
        simp only
        exact ⟨f1, x, u, m_c134F f1⟩
      | inr p =>
        rw [hq] at hs
        obtain ⟨w, f5, f6⟩ := hs
        rw [show s_Model_sum RF (mS τ (sk B e q.1 + 1) (-1) 0) = some (w, mS τ p.1 (-1) 0) from f5]
        simp only
        exact ⟨m_c134 (q := (p.1, some q.2, p.2)) h13 (f3.ev hh64).symm (f6.ev (by unfold ha9; omega)).symm, (fun c hc => by cases hc; exact ⟨v, f3 [] (by show 0 + hh ≤ 64; omega)⟩), w, f6 [] (by unfold ha9; decide)⟩
    · simp only [if_neg q63]
      rw [if_pos trivial]
      exact ⟨by omega, _, _, rfl⟩
theorem m_clause (h : TM τ B e b b0) (hl : LM τ l) (h13 : τ.1 570 13 = 121) {a : Nat} (ha : a ≤ e) : MC τ l (pClause B e a) (s_Model_clause (mS τ a (-1) 0)) := by
  have g1 := sk_ge (B := B) (e := e) (a := a)
  have g2 := sk_le (B := B) (e := e) (a := a) ha
  have hc := h.ch (a := sk B e a)
  have he := h.e9
  have hb0 : ∀ a, a ≤ e → Bd e a 0 (pUnit B e 16 0 a) := fun a ha => pUnit_bd 16 0 a ha
  have hF : ∀ a, a ≤ e → MB τ l 0 (hu9 0) (pUnit B e 16 0 a) (s_Model_unit RF (mS τ a (-1) 0)) := fun a ha => m_unit h hl 16 0 a (by omega) (by omega) ha
  unfold s_Model_clause pClause
  rw [m_look h ha]
  simp only [xb2]
  rw [m_among9 hc]
  simp only [ite10]
  by_cases q1 : chA B e (sk B e a) = 121
  · have hlt : sk B e a < e := chA_lt (B := B) (by omega)
    rw [if_pos q1, if_pos q1, q1]
    simp only [xl]
    rw [mS_10, nI_1, mS_a, show (58 : Int32) = nI 58 from rfl, m_takes h (by omega) (by omega) (by omega)]
    have g3 := sk_ge (B := B) (e := e) (a := sk B e a + 1)
    have g4 := sk_le (B := B) (e := e) (a := sk B e a + 1) (by omega)
    generalize sk B e (sk B e a + 1) = a2 at *
    by_cases q2 : chA B e a2 = 58
    · have hlt2 : a2 < e := chA_lt (B := B) (by omega)
      simp only [if_pos q2]
      rw [if_neg (show ¬ (1 : Int32) = 0 by decide), m_look h (show a2 + 1 ≤ e by omega)]
      simp only
      have g5 := sk_le (B := B) (e := e) (a := a2 + 1) (by omega)
      have hc3 := h.ch (a := sk B e (a2 + 1))
      generalize sk B e (a2 + 1) = a3 at *
      have k1 := oc_eq (c := chA B e a3) (k := 33) (by omega) (by omega) (by omega)
      have k2 := oc_eq (c := chA B e a3) (k := 40) (by omega) (by omega) (by omega)
      have cond : chA B e a3 = 33 ∨ chA B e a3 = 40 → MC τ l (pBody B e a3) (s_Model_clause_64 (oc 121) (mS τ a3 (-1) 0)) := fun q3 => by
        unfold pBody s_Model_clause_64
        rw [if_pos q3, oc_n (by omega)]
        exact m_tail h hl h13 (a0 := a3) (by unfold hu9; omega) (m_cond (p0 := 0) (p1 := 0) h hb0 hF (m_part h hb0 hF g5) (hb0 a3 g5)) (pCnd_bd hb0 (hb0 a3 g5))
      by_cases q3 : chA B e a3 = 33
      · rw [if_pos (show oc (chA B e a3) = 33 from k1.mpr q3)]
        exact cond (Or.inl q3)
      · rw [if_neg (show ¬ oc (chA B e a3) = 33 from fun z => q3 (k1.mp z))]
        by_cases q4 : chA B e a3 = 40
        · rw [if_pos (show oc (chA B e a3) = 40 from k2.mpr q4)]
          exact cond (Or.inr q4)
        · rw [if_neg (show ¬ oc (chA B e a3) = 40 from fun z => q4 (k2.mp z))]
          unfold pBody
          rw [if_neg (fun z => z.elim q3 q4)]
          have hs := m_sum h hl 16 0 a3 (by omega) (by omega) g5
          have hsb := pSum_bd (B := B) (e := e) 16 0 a3 g5
          cases hq : pSum B e 16 0 a3 with
          | inl f =>
            rw [hq] at hs
            obtain ⟨f1, v, x, u, f2⟩ := hs
            rw [show s_Model_sum RF (mS τ a3 (-1) 0) = some (v, mX τ x (nI f) u) from f2]
            simp only
            rw [mX_11, if_neg (nI_m1 f1)]
            exact ⟨f1, x, u, m_c134F f1⟩
          | inr q =>
            rw [hq] at hs hsb
            obtain ⟨v, f2, f3⟩ := hs
            have g6 := sk_ge (B := B) (e := e) (a := q.1)
            have g7 := sk_le (B := B) (e := e) (a := q.1) hsb.2.1
            rw [show s_Model_sum RF (mS τ a3 (-1) 0) = some (v, mS τ q.1 (-1) 0) from f2]
            simp only
            rw [mS_11, if_pos rfl, m_look h hsb.2.1]
            simp only
            rw [m_isSign h.ch]
            simp only [ite10]
            by_cases q5 : (sgn (chA B e (sk B e q.1))).isSome = true
            · rw [if_pos q5, if_pos q5, oc_n (by omega)]
              have hcm : MB τ l 0 (hu9 0) (pCmp B e 0 (sk B e q.1) q.2) (s_Model_compares 1 v (mS τ (sk B e q.1) (-1) 0)) := by
                unfold s_Model_compares
                rw [if_neg (show ¬ (1 : Int32) = 0 by decide)]
                exact m_cmp h hl (by omega) g7 f3 (by unfold ha9 hu9; omega) (by unfold ha9 hu9; omega)
              have hcb : Bd e a3 0 (pCmp B e 0 (sk B e q.1) q.2) := pCmp_bd g7 (by have := hsb.1; omega) (by have := hsb.2.2; omega)
              exact m_tail h hl h13 (a0 := a3) (by unfold hu9; omega) (m_cond (p0 := 1) (p1 := v) h hb0 hF (m_part1 h hb0 hF hcm hcb) hcb) (pCnd_bd hb0 hcb)
            · rw [if_neg q5, if_neg q5, oc_n (by omega)]
              exact ⟨m_c134 (q := (sk B e q.1, none, q.2)) h13 rfl (f3.ev (by unfold ha9; omega)).symm, (fun c hc => by cases hc), v, f3 [] (by unfold ha9; decide)⟩
    · simp only [if_neg q2]
      rw [if_pos trivial]
      exact ⟨by omega, _, _, rfl⟩
  · rw [if_neg q1, if_neg q1, m_fails]
    exact ⟨by omega, _, _, rfl⟩
end
