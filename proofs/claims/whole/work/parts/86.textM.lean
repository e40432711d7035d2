/-! tastes, the model: a text gone through -/
def w17 (b j : Nat) : Prop := b = 570 ∧ (j = 17 ∨ j = 14)
theorem FR.tm {τ τ' : LH} {B : Nat → Nat} {e b b0 : Nat} (h : FR w17 τ τ') (t : TM τ B e b b0) : TM τ' B e b b0 := by
  obtain ⟨h1, h2, h3, h4, h5⟩ := t
  refine ⟨by rw [h.2]; exact h1, h2, ?_, ?_, fun i hi => ?_⟩
  · rw [h.1 570 8 (by unfold w17; omega)]; exact h3
  · rw [h.1 570 9 (by unfold w17; omega)]; exact h4
  · rw [h.1 b (b0 + i) (by unfold w17; omega)]; exact h5 i hi
theorem FR.lm {τ τ' : LH} {l : Nat → Int32} (h : FR w17 τ τ') (t : LM τ l) : LM τ' l := fun c i hc => by rw [h.1 574 c (by unfold w17; omega)]; exact t c i hc
theorem upC_fr {τ : LH} {l : Nat → Int32} {q : Option (List Int32) × List Int32} : FR w17 τ (upC l q τ) := by
  unfold upC
  split
  · split
    · exact FR.rf
    · exact (FR.I (by unfold w17; omega)).tr (FR.I (by unfold w17; omega))
  · exact FR.rf
def GS (l : Nat → Int32) (τ : LH) (acc : CL) : Prop := τ.1 570 17 = fdOf l acc ∧ τ.1 570 14 = wOf l acc
theorem GS.up {τ : LH} {l : Nat → Int32} {acc : CL} {q : Option (List Int32) × List Int32} (h : GS l τ acc) : GS l (upC l q τ) (acc ++ [q]) := by
  obtain ⟨h1, h2⟩ := h
  obtain ⟨a1, a2, a3⟩ := fdOf_app (l := l) (q := q) acc
  unfold GS upC
  rw [a1, a2, h1]
  by_cases q1 : fdOf l acc = 0
  · rw [if_pos q1, if_pos q1, if_pos q1]
    by_cases q2 : cdV l q.1 = 0
    · rw [if_pos q2, if_pos q2, if_pos q2]
      exact ⟨h1.trans q1, h2.trans (a3 q1)⟩
    · rw [if_neg q2, if_neg q2, if_neg q2]
      exact ⟨by rw [stI_570, if_neg (by omega), stI_570, if_pos rfl], by rw [stI_570, if_pos rfl]⟩
  · rw [if_neg q1, if_neg q1, if_neg q1]
    refine ⟨?_, h2⟩
    rw [h1]
    have : ∀ cl : CL, fdOf l cl = 0 ∨ fdOf l cl = 1 := by
      intro cl
      induction cl with
      | nil => exact Or.inl rfl
      | cons p r ih =>
        show (if cdV l p.1 = 0 then fdOf l r else 1) = 0 ∨ (if cdV l p.1 = 0 then fdOf l r else 1) = 1
        by_cases z : cdV l p.1 = 0
        · rw [if_pos z]; exact ih
        · rw [if_neg z]; exact Or.inr rfl
    exact (this acc).resolve_left q1
/-- what comes of a whole text -/
def MG (τ : LH) (l : Nat → Int32) (r : Nat ⊕ CL) (o : Option LH) : Prop := match r with
  | .inl f => f < 2 ^ 31 ∧ ∃ τ' x y, o = some (mX τ' x (nI f) y) ∧ FR w17 τ τ'
  | .inr cl => ∃ τ' a, o = some (mS τ' a (-1) 0) ∧ GS l τ' cl ∧ FR w17 τ τ' ∧ ∀ q ∈ cl, WFq l q
theorem pTail_bd {B : Nat → Nat} {e a0 : Nat} {r : TR} (hb : Bd e a0 0 r) : match pTail B e r with
  | .inl f => f ≤ e
  | .inr q => a0 < q.1 ∧ q.1 ≤ e := by
  unfold pTail
  cases r with
  | inl f => exact hb.2
  | inr q =>
    have g3 := sk_le (B := B) (e := e) (a := q.1) hb.2.1
    have g2 := sk_ge (B := B) (e := e) (a := q.1)
    by_cases q63 : chA B e (sk B e q.1) = 63
    · have hlt : sk B e q.1 < e := chA_lt (B := B) (by omega)
      simp only [if_pos q63]
      have hs := pSum_bd (B := B) (e := e) 16 0 (sk B e q.1 + 1) (by omega)
      have := hb.1
      cases hq : pSum B e 16 0 (sk B e q.1 + 1) with
      | inl f => rw [hq] at hs; exact hs.2
      | inr p =>
        rw [hq] at hs
        exact ⟨by have := hs.1; show a0 < p.1; omega, hs.2.1⟩
    · simp only [if_neg q63]
      exact g3
theorem pClause_bd {B : Nat → Nat} {e a : Nat} (ha : a ≤ e) : match pClause B e a with
  | .inl f => f ≤ e
  | .inr q => a < q.1 ∧ q.1 ≤ e := by
  have g1 := sk_ge (B := B) (e := e) (a := a)
  have g2 := sk_le (B := B) (e := e) (a := a) ha
  have hb0 : ∀ a, a ≤ e → Bd e a 0 (pUnit B e 16 0 a) := fun a ha => pUnit_bd 16 0 a ha
  unfold pClause
  by_cases q1 : chA B e (sk B e a) = 121
  · have hlt : sk B e a < e := chA_lt (B := B) (by omega)
    rw [if_pos q1]
    have g3 := sk_ge (B := B) (e := e) (a := sk B e a + 1)
    have g4 := sk_le (B := B) (e := e) (a := sk B e a + 1) (by omega)
    generalize sk B e (sk B e a + 1) = a2 at *
    by_cases q2 : chA B e a2 = 58
    · have hlt2 : a2 < e := chA_lt (B := B) (by omega)
      rw [if_pos q2]
      have g5 := sk_le (B := B) (e := e) (a := a2 + 1) (by omega)
      have g6 := sk_ge (B := B) (e := e) (a := a2 + 1)
      generalize sk B e (a2 + 1) = a3 at *
      unfold pBody
      by_cases q3 : chA B e a3 = 33 ∨ chA B e a3 = 40
      · rw [if_pos q3]
        have := pTail_bd (B := B) (pCnd_bd (B := B) hb0 (hb0 a3 g5))
        cases hq : pTail B e (pCnd B e (pUnit B e 16 0) (pUnit B e 16 0 a3)) with
        | inl f => rw [hq] at this; exact this
        | inr q => rw [hq] at this; exact ⟨by have := this.1; omega, this.2⟩
      · rw [if_neg q3]
        have hsb := pSum_bd (B := B) (e := e) 16 0 a3 g5
        cases hq : pSum B e 16 0 a3 with
        | inl f => rw [hq] at hsb; exact hsb.2
        | inr q =>
          rw [hq] at hsb
          have g8 := sk_ge (B := B) (e := e) (a := q.1)
          have g7 := sk_le (B := B) (e := e) (a := q.1) hsb.2.1
          simp only
          by_cases q5 : (sgn (chA B e (sk B e q.1))).isSome = true
          · rw [if_pos q5]
            have hcb : Bd e a3 0 (pCmp B e 0 (sk B e q.1) q.2) := pCmp_bd g7 (by have := hsb.1; omega) (by have := hsb.2.2; omega)
            have := pTail_bd (B := B) (pCnd_bd (B := B) hb0 hcb)
            cases hq2 : pTail B e (pCnd B e (pUnit B e 16 0) (pCmp B e 0 (sk B e q.1) q.2)) with
            | inl f => rw [hq2] at this; exact this
            | inr p => rw [hq2] at this; exact ⟨by have := this.1; omega, this.2⟩
          · rw [if_neg q5]
            exact ⟨by have := hsb.1; show a < sk B e q.1; omega, g7⟩
    · rw [if_neg q2]
      exact g4
  · rw [if_neg q1]
    exact g2
theorem mS_look {τ : LH} {B : Nat → Nat} {e b b0 a d : Nat} {f : Int32} (h : TM τ B e b b0) (ha : a ≤ e) : s_Model_look (mS τ (sk B e a) f d) = some (oc (chA B e (sk B e a)), mS τ (sk B e a) f d) := by
  rw [m_look h (sk_le ha), sk_sk ha]
theorem m_all {B : Nat → Nat} {e b b0 : Nat} {l : Nat → Int32} {p1 p2 : Int32} {p0 : Nat} : ∀ (n f a : Nat) (acc : CL) (τ : LH), TM τ B e b b0 → LM τ l → τ.1 570 13 = 121 → GS l τ acc → (∀ q ∈ acc, WFq l q) → e < n + a → n < f → a ≤ e → MG τ l (pAll B e n a acc) (xb1 (s_Model_clause (mS τ a (-1) 0)) fun σ8 => s_Model_goThrough_32 p0 p1 p2 f σ8) := by
  intro n
  induction n with
  | zero => intro f a acc τ _ _ _ _ _ h1 h2 h3; omega
  | succ n ih =>
    intro f a acc τ h hl h13 hg hw h1 h2 h3
    obtain ⟨f, rfl⟩ : ∃ q, f = q + 1 := ⟨f - 1, by omega⟩
    have he := h.e9
    have hc := m_clause h hl h13 h3
    have hb := pClause_bd (B := B) (e := e) (a := a) h3
    unfold pAll
    cases hq : pClause B e a with
    | inl g =>
      rw [hq] at hc
      obtain ⟨f1, x, y, f2⟩ := hc
      rw [f2]
      simp only [xb1]
      refine ⟨f1, τ, x, y, ?_, FR.rf⟩
      rw [s_Model_goThrough_32]
      unfold s_Model_goThrough_32_b s_Model_goThrough_66 s_Model_goThrough_87
      rw [mX_11, if_neg (nI_m1 f1), if_neg (nI_m1 f1)]
    | inr q =>
      rw [hq] at hc hb
      have hwq : WFq l q.2 := hc.2
      have hc : s_Model_clause (mS τ a (-1) 0) = some (mS (upC l q.2 τ) q.1 (-1) 0) := hc.1
      have hw2 : ∀ p ∈ acc ++ [q.2], WFq l p := fun p hp => (List.mem_append.mp hp).elim (hw p) (fun z => by rw [List.mem_singleton.mp z]; exact hwq)
      have hb : a < q.1 ∧ q.1 ≤ e := hb
      have u1 := upC_fr (τ := τ) (l := l) (q := q.2)
      have t1 := u1.tm h
      have g7 := sk_le (B := B) (e := e) (a := q.1) hb.2
      have g8 := sk_ge (B := B) (e := e) (a := q.1)
      have hch := t1.ch (a := sk B e q.1)
      have k1 := oc_eq (c := chA B e (sk B e q.1)) (k := 59) (by omega) (by omega) (by omega)
      have k2 := oc_m1 (c := chA B e (sk B e q.1)) (by omega)
      rw [hc]
      simp only [xb1]
      rw [s_Model_goThrough_32]
      unfold s_Model_goThrough_32_b
      rw [mS_11, if_pos rfl, m_look t1 hb.2]
      simp only [xb2]
      by_cases q1 : chA B e (sk B e q.1) = 59
      · have hlt : sk B e q.1 < e := chA_lt (B := B) (by omega)
        rw [if_pos q1, if_pos (show oc (chA B e (sk B e q.1)) = 59 from k1.mpr q1)]
        simp only [xl]
        rw [mS_10, nI_1, mS_a]
        have := ih f (sk B e q.1 + 1) (acc ++ [q.2]) (upC l q.2 τ) t1 (u1.lm hl) (by rw [u1.1 570 13 (by unfold w17; omega)]; exact h13) hg.up hw2 (by omega) (by omega) (by omega)
        cases hp : pAll B e n (sk B e q.1 + 1) (acc ++ [q.2]) with
        | inl g =>
          rw [hp] at this
          obtain ⟨f1, τ', x, y, f2, f3⟩ := this
          exact ⟨f1, τ', x, y, f2, u1.tr f3⟩
        | inr cl =>
          rw [hp] at this
          obtain ⟨τ', a', f2, f4, f3, f5⟩ := this
          exact ⟨τ', a', f2, f4, u1.tr f3, f5⟩
      · rw [if_neg q1, if_neg (show ¬ oc (chA B e (sk B e q.1)) = 59 from fun z => q1 (k1.mp z))]
        unfold s_Model_goThrough_66 s_Model_goThrough_87
        rw [mS_11, if_pos rfl, mS_look t1 hb.2]
        simp only [xb2]
        by_cases q2 : chA B e (sk B e q.1) = 0
        · rw [if_pos q2, if_pos (k2.mpr q2)]
          exact ⟨upC l q.2 τ, sk B e q.1, rfl, hg.up, u1, hw2⟩
        · rw [if_neg q2, if_neg (fun z => q2 (k2.mp z)), m_fails]
          exact ⟨by omega, upC l q.2 τ, _, _, rfl, u1⟩
/-- the model begins a text -/
def mBeg (τ : LH) (b : Nat) (x y : Int32) : LH := stI (stI (stI (stI (stI (stX τ b) 570 8 x) 570 9 y) 570 13 121) 570 17 0) 570 14 0
theorem mBeg_eq {τ : LH} {b : Nat} {x y : Int32} : stI (stI (stI (stI (stI (stI (stI (stI (stX τ b) 570 8 x) 570 9 y) 570 10 0) 570 11 (-1)) 570 13 121) 570 12 0) 570 17 0) 570 14 0 = mS (mBeg τ b x y) 0 (-1) 0 := by
  unfold mBeg mS
  rw [nI_0]
  rw [stI_cm (i := 14) (j := 10) (by omega), stI_cm (i := 17) (j := 10) (by omega), stI_cm (i := 13) (j := 10) (by omega), stI_cm (i := 14) (j := 11) (by omega), stI_cm (i := 17) (j := 11) (by omega), stI_cm (i := 13) (j := 11) (by omega), stI_cm (i := 14) (j := 12) (by omega), stI_cm (i := 17) (j := 12) (by omega)]
theorem mBeg_n {τ : LH} {b c : Nat} {x y : Int32} (hc : c ≠ 570) : (mBeg τ b x y).1 c = τ.1 c := by
  unfold mBeg
  rw [stI_n hc, stI_n hc, stI_n hc, stI_n hc, stI_n hc]
  rfl
theorem mBeg_f {τ : LH} {b j : Nat} {x y : Int32} (hj : j ≠ 8 ∧ j ≠ 9 ∧ j ≠ 13 ∧ j ≠ 14 ∧ j ≠ 17) : (mBeg τ b x y).1 570 j = τ.1 570 j := by
  unfold mBeg
  rw [stI_570, if_neg hj.2.2.2.1, stI_570, if_neg hj.2.2.2.2, stI_570, if_neg hj.2.2.1, stI_570, if_neg hj.2.1, stI_570, if_neg hj.1]
  rfl
/-- a text lies in an array -/
def TX (τ : LH) (B : Nat → Nat) (e b b0 : Nat) : Prop := ((b = 571 ∧ b0 + e ≤ 240) ∨ (b = 572 ∧ b0 + e ≤ 960)) ∧ ∀ i, i < e → τ.1 b (b0 + i) = sx (B i) ∧ 1 ≤ B i ∧ B i < 256
theorem mX_se {τ τ' : LH} {x y f : Int32} {b : Nat} {u v : Int32} (h : FR w17 (mBeg τ b u v) τ') : SE τ (mX τ' x f y) := by
  have base : ∀ c j, nsc c j → τ'.1 c j = τ.1 c j := fun c j q => by
    unfold nsc at q
    by_cases e : c = 570
    · subst e
      rw [h.1 570 j (by unfold w17; omega), mBeg_f (by omega)]
    · rw [h.1 c j (by unfold w17; omega), mBeg_n e]
  refine ⟨fun c j q => ?_, fun c q => ?_, ?_⟩
  · rw [← base c j q]
    unfold nsc at q
    by_cases e : c = 570
    · subst e
      have := q.2.2 rfl
      unfold mX
      rw [stI_570, if_neg this.2.2.2.2.1, stI_570, if_neg this.2.2.2.1, stI_570, if_neg this.2.2.1]
    · unfold mX
      rw [stI_n e, stI_n e, stI_n e]
  · show τ'.2.1 c = τ.2.1 c
    rw [h.2]
    rfl
  · show τ'.2.2.1 = τ.2.2.1
    rw [h.2]
    rfl
/-- alike but for the reading of a text -/
def SE1 (τ τ' : LH) : Prop := SE τ τ' ∧ (∀ b, b ≠ 570 → τ'.1 b = τ.1 b) ∧ τ'.2.1 = τ.2.1
theorem mX_s1 {τ τ' : LH} {x y f : Int32} {b : Nat} {u v : Int32} (h : FR w17 (mBeg τ b u v) τ') : SE1 τ (mX τ' x f y) := by
  refine ⟨mX_se h, fun c hc => ?_, ?_⟩
  · unfold mX
    rw [stI_n hc, stI_n hc, stI_n hc]
    funext j
    rw [h.1 c j (by unfold w17; omega), mBeg_n hc]
  · show τ'.2.1 = τ.2.1
    rw [h.2]
    rfl
theorem m_goThrough {τ : LH} {B : Nat → Nat} {e b b0 : Nat} {l : Nat → Int32} (h : TX τ B e b b0) (hl : LM τ l) : match pAll B e (e + 1) 0 [] with
    | .inl f => ∃ τ', s_Model_goThrough b (nI b0) (nI e) τ = some τ' ∧ τ'.1 570 11 = nI f ∧ f < 2 ^ 31 ∧ SE1 τ τ'
    | .inr cl => ∃ τ', s_Model_goThrough b (nI b0) (nI e) τ = some τ' ∧ τ'.1 570 11 = -1 ∧ τ'.1 570 14 = wOf l cl ∧ SE1 τ τ' ∧ ∀ q ∈ cl, WFq l q := by
  have tm : TM (mBeg τ b (nI b0) (nI e)) B e b b0 := by
    refine ⟨rfl, h.1, ?_, ?_, fun i hi => ?_⟩
    · unfold mBeg
      rw [stI_570, if_neg (by omega), stI_570, if_neg (by omega), stI_570, if_neg (by omega), stI_570, if_neg (by omega), stI_570, if_pos rfl]
    · unfold mBeg
      rw [stI_570, if_neg (by omega), stI_570, if_neg (by omega), stI_570, if_neg (by omega), stI_570, if_pos rfl]
    · rw [mBeg_n (by have := h.1; omega)]; exact h.2 i hi
  have lm : LM (mBeg τ b (nI b0) (nI e)) l := fun c i hc => by rw [mBeg_n (by omega)]; exact hl c i hc
  have h13 : (mBeg τ b (nI b0) (nI e)).1 570 13 = 121 := by
    unfold mBeg
    rw [stI_570, if_neg (by omega), stI_570, if_neg (by omega), stI_570, if_pos rfl]
  have gs : GS l (mBeg τ b (nI b0) (nI e)) [] := by
    unfold mBeg
    exact ⟨by rw [stI_570, if_neg (by omega), stI_570, if_pos rfl]; rfl, by rw [stI_570, if_pos rfl]; rfl⟩
  have run : s_Model_goThrough b (nI b0) (nI e) τ = xb1 (s_Model_clause (mS (mBeg τ b (nI b0) (nI e)) 0 (-1) 0)) fun σ8 => s_Model_goThrough_32 b (nI b0) (nI e) FUEL σ8 := by
    unfold s_Model_goThrough s_Model_starts
    simp only [xl, xb1]
    rw [mBeg_eq]
  have := m_all (p0 := b) (p1 := nI b0) (p2 := nI e) (e + 1) FUEL 0 [] (mBeg τ b (nI b0) (nI e)) tm lm h13 gs (fun q hq => by cases hq) (by omega) (by have := tm.e9; unfold FUEL; omega) (by omega)
  rw [← run] at this
  cases hp : pAll B e (e + 1) 0 [] with
  | inl f =>
    rw [hp] at this
    obtain ⟨f1, τ', x, y, f2, f3⟩ := this
    exact ⟨_, f2, mX_11, f1, mX_s1 f3⟩
  | inr cl =>
    rw [hp] at this
    obtain ⟨τ', a', f2, f4, f3, f5⟩ := this
    exact ⟨_, f2, mS_11, by rw [mS_f (by omega)]; exact f4.2, mX_s1 f3, f5⟩
/-- whatever the letters are worth, codes run -/
theorem pAll_wf {τ : LH} {B : Nat → Nat} {e b b0 : Nat} {cl : CL} (h : TX τ B e b b0) (hcl : pAll B e (e + 1) 0 [] = .inr cl) (l : Nat → Int32) : ∀ q ∈ cl, WFq l q := by
  have hx : TX (stF τ 574 (fun c => match lix c with
    | some i => l i
    | none => 0)) B e b b0 := ⟨h.1, fun i hi => by rw [stF_n (by have := h.1; omega)]; exact h.2 i hi⟩
  have hl : LM (stF τ 574 (fun c => match lix c with
    | some i => l i
    | none => 0)) l := fun c i hc => by rw [stF_s]; simp only [hc]
  have := m_goThrough hx hl
  rw [hcl] at this
  obtain ⟨_, _, _, _, _, f5⟩ := this
  exact f5
