/-! what a question asks first; ahead -/
theorem ite_rg {α : Type} {a b y : Int32} {R K : α} : (if y < a then R else if b < y then R else K) = if a ≤ y ∧ y ≤ b then K else R := by
  by_cases g1 : y < a
  · rw [if_pos g1, if_neg (fun z => Int32.not_le.mpr g1 z.1)]
  · rw [if_neg g1]
    by_cases g2 : b < y
    · rw [if_pos g2, if_neg (fun z => Int32.not_le.mpr g2 z.2)]
    · rw [if_neg g2, if_pos ⟨Int32.not_lt.mp g1, Int32.not_lt.mp g2⟩]
theorem ite_rg2 {α : Type} {a b y : Int32} {R K : α} : (if y < a then R else if y ≤ b then K else R) = if a ≤ y ∧ y ≤ b then K else R := by
  by_cases g1 : y < a
  · rw [if_pos g1, if_neg (fun z => Int32.not_le.mpr g1 z.1)]
  · rw [if_neg g1]
    by_cases g2 : y ≤ b
    · rw [if_pos g2, if_pos ⟨Int32.not_lt.mp g1, g2⟩]
    · rw [if_neg g2, if_neg (fun z => g2 z.2)]
theorem g_noC {x : Int32} {σ : LH} : s_Main_isNoChoice x σ = some (if x = 0 ∨ x = 1 then 0 else 1, σ) := by
  unfold s_Main_isNoChoice s_Main_isNoChoice_13 s_Main_isNoChoice_14
  by_cases q1 : x = 0
  · rw [if_pos q1, if_pos (Or.inl q1), if_pos (Or.inl rfl)]
  · rw [if_neg q1]
    by_cases q2 : x = 1
    · rw [if_pos q2, if_pos (Or.inr q2), if_pos (Or.inl rfl)]
    · rw [if_neg q2, if_pos (show zb 1 from Or.inr rfl), if_neg (c := x = 0 ∨ x = 1) (fun z => z.elim q1 q2)]
theorem c01 {x : Int32} : (0 ≤ x ∧ x ≤ 1) ↔ (x = 0 ∨ x = 1) := by
  constructor
  · rintro ⟨h1, h2⟩
    obtain ⟨t, rfl, -, h4⟩ := nI_btw (a := 0) (b := 1) (by omega) (by omega) h1 h2
    rcases (show t = 0 ∨ t = 1 by omega) with rfl | rfl
    · exact Or.inl rfl
    · exact Or.inr rfl
  · rintro (rfl | rfl)
    · exact ⟨by decide, by decide⟩
    · exact ⟨by decide, by decide⟩
theorem m_choice {x : Int32} {τ : LH} : s_Model_isIn (Int32.toInt64 x) 0 1 τ = some (if x = 0 ∨ x = 1 then 1 else 0, τ) := by
  rw [show s_Model_isIn (Int32.toInt64 x) 0 1 τ = some (if 0 ≤ x ∧ x ≤ 1 then 1 else 0, τ) from m_isIn (a := x) (b := 0) (c := 1)]
  by_cases q : x = 0 ∨ x = 1
  · rw [if_pos q, if_pos (c01.mpr q)]
  · rw [if_neg q, if_neg (fun z => q (c01.mp z))]
theorem m_in0 {a c : Int32} {τ : LH} : s_Model_isIn (Int32.toInt64 a) 0 (Int32.toInt64 c) τ = some (if 0 ≤ a ∧ a ≤ c then 1 else 0, τ) := m_isIn (a := a) (b := 0) (c := c)
theorem m_in09 {a : Int32} {τ : LH} : s_Model_isIn (Int32.toInt64 a) 0 9 τ = some (if 0 ≤ a ∧ a ≤ 9 then 1 else 0, τ) := m_isIn (a := a) (b := 0) (c := 9)
theorem m_in19 {a : Int32} {τ : LH} : s_Model_isIn (Int32.toInt64 a) 1 9 τ = some (if 1 ≤ a ∧ a ≤ 9 then 1 else 0, τ) := m_isIn (a := a) (b := 1) (c := 9)
theorem m_in130 {a : Int32} {τ : LH} : s_Model_isIn (Int32.toInt64 a) 1 30 τ = some (if 1 ≤ a ∧ a ≤ 30 then 1 else 0, τ) := m_isIn (a := a) (b := 1) (c := 30)
theorem m_in13 {a : Int32} {τ : LH} : s_Model_isIn (Int32.toInt64 a) 1 3 τ = some (if 1 ≤ a ∧ a ≤ 3 then 1 else 0, τ) := m_isIn (a := a) (b := 1) (c := 3)
theorem m_in099 {a : Int32} {τ : LH} : s_Model_isIn (Int32.toInt64 a) 0 99 τ = some (if 0 ≤ a ∧ a ≤ 99 then 1 else 0, τ) := m_isIn (a := a) (b := 0) (c := 99)
/-- alike, and what was there stands -/
def QR (I : LH → Prop) (f g : Option (Int32 × LH)) (σ τ : LH) : Prop := ∃ r σ' τ', f = some (r, σ') ∧ g = some (r, τ') ∧ FR scC σ σ' ∧ FT scM τ τ' ∧ FIN σ' τ' ∧ I τ'
section
variable {I : LH → Prop} {σ τ σ' τ' : LH} {S P n0 ne ne' n E eN mm M : Nat} {go ex ex' : Nat → Nat} {who who' : Option Nat} {L : Nat → Nat → Nat → Int32} {ln : Nat → Nat → Nat → Nat} {qn sn : Nat → Nat}
theorem FIN.z (h : FIN σ τ) : FIN σ (stI τ 570 0 0) := ⟨h.1, h.2.1, by rw [stI_570, if_neg (by omega)]; exact h.2.2.1, by rw [stI_570, if_neg (by omega)]; exact h.2.2.2⟩
theorem FT.z : FT scM τ (stI τ 570 0 0) := FT.I (by unfold scM; omega)
theorem FIN.mt {A : Nat → Int32} {v : Int32} (h : FIN σ τ) (m : Mt I τ 584 A v τ') (e : σ'.1 38 = σ.1 38) : FIN σ' τ' := ⟨by rw [e]; exact h.1, by rw [e]; exact h.2.1, by rw [m.fld (Or.inr rfl) (by omega) (by omega)]; exact h.2.2.1, by rw [m.fld (Or.inr rfl) (by omega) (by omega)]; exact h.2.2.2⟩
theorem QX.fin (X : QX I σ τ S P n0 n E go L ln qn sn mm M) : FIN σ τ := X.2.2.2.2.2.2.2.2.2.2.1
theorem QX.it (X : QX I σ τ S P n0 n E go L ln qn sn mm M) : I τ := X.2.2.2.2.2.2.2.2.2.2.2
theorem QX.z (X : QX I σ τ S P n0 n E go L ln qn sn mm M) (hD : Idep I) : QX I σ (stI τ 570 0 0) S P n0 n E go L ln qn sn mm M := X.q FR.rf FT.z X.fin.z (hD.I X.it (by omega))
theorem QX.S8 (X : QX I σ τ S P n0 n E go L ln qn sn mm M) : S ≤ 8 := X.1.1.2.1
theorem QX.P8 (X : QX I σ τ S P n0 n E go L ln qn sn mm M) : P ≤ 8 := X.1.1.2.2.2.1
theorem QX.hS (X : QX I σ τ S P n0 n E go L ln qn sn mm M) : σ.1 4 0 = nI S := X.1.1.1
theorem QX.hP (X : QX I σ τ S P n0 n E go L ln qn sn mm M) : σ.1 4 1 = nI P := X.1.1.2.2.1
theorem QX.mP (X : QX I σ τ S P n0 n E go L ln qn sn mm M) : τ.1 570 27 = nI P := X.1.2.1.2.2.1
theorem QX.mS (X : QX I σ τ S P n0 n E go L ln qn sn mm M) : τ.1 570 26 = nI S := X.1.2.1.1
theorem QX.cm (X : QX I σ τ S P n0 n E go L ln qn sn mm M) : σ.1 39 7 = nI mm := X.2.2.1.1.m.trans X.2.2.1.2.1.1.2.1
theorem QX.tm (X : QX I σ τ S P n0 n E go L ln qn sn mm M) : τ.1 583 48 = nI mm := X.2.2.1.2.1.1.2.1
theorem QX.cE (X : QX I σ τ S P n0 n E go L ln qn sn mm M) : σ.1 4 15 = nI E := X.2.2.2.1
theorem QX.tE (X : QX I σ τ S P n0 n E go L ln qn sn mm M) : τ.1 581 1 = nI E := X.2.2.2.2.1
theorem QX.e100 (X : QX I σ τ S P n0 n E go L ln qn sn mm M) : E < 100 := X.2.2.2.2.2.1
theorem QX.mE (X : QX I σ τ S P n0 n E go L ln qn sn mm M) : mm ≤ E := X.2.2.2.2.2.2.1
theorem QX.M1 (X : QX I σ τ S P n0 n E go L ln qn sn mm M) : M ≤ 1000 * mm := X.2.2.2.2.2.2.2.1
theorem QX.sp (X : QX I σ τ S P n0 n E go L ln qn sn mm M) : S = 0 ↔ P = 0 := X.2.2.2.2.2.2.2.2.1
theorem QX.pe (X : QX I σ τ S P n0 n E go L ln qn sn mm M) : P = 0 → E = 0 := X.2.2.2.2.2.2.2.2.2.1
theorem QX.gL (X : QX I σ τ S P n0 n E go L ln qn sn mm M) : s_Main_minutesLeft σ = some (nI (E - mm), σ) := by
  unfold s_Main_minutesLeft
  have := X.mE
  rw [X.cE, X.cm, pk_sub (by omega)]
theorem QX.mL (X : QX I σ τ S P n0 n E go L ln qn sn mm M) : s_Model_left τ = some (nI (E - mm), τ) := by
  unfold s_Model_left
  have := X.mE
  rw [if_pos (show ib 1 2 by decide), if_pos (show ib 48 290 by decide), show τ.1 581 (Int32.toNatClampNeg 1) = nI E from X.tE, show τ.1 583 (Int32.toNatClampNeg 48) = nI mm from X.tm, pk_sub (by omega)]
theorem QR.no {f g : Option (Int32 × LH)} (X : QX I σ τ S P n0 n E go L ln qn sn mm M) (hD : Idep I) (r : Int32) (hf : f = some (r, σ)) (hg : g = some (r, stI τ 570 0 0)) : QR I f g σ τ := ⟨r, σ, _, hf, hg, FR.rf, FT.z, X.fin.z, hD.I X.it (by omega)⟩
theorem ahead_loop (hI : Icl I) (hL : LKok I P S L) {τ0 : LH} (G : MGo τ0 S P n0 ne go ex) {p g Z : Nat} {z : Int32} (hp : p < 8) (hZ : Z < 101) (hg : g < 1000) : ∀ (r f y mm : Nat) (A A2 : Nat → Int32) (v v2 : Int32) (τ : LH), mm + r = Z → y + r = g → r < f → AOk S P mm A → Mt I τ0 584 A v τ → mRun L τ0 S P n0 ne go ex 1000 r mm A v = some (A2, v2) → ∃ τ', s_Model_ahead_55 (nI p) (nI g) z f (nI y) τ = some (if z = 0 then A2 (4 * p) else A2 (4 * p + 3), τ') ∧ Mt I τ0 584 A2 v2 τ' := by
  intro r
  induction r with
  | zero =>
    intro f y mm A A2 v v2 τ hm hy hf hA h hr
    obtain ⟨f, rfl⟩ : ∃ q, f = q + 1 := ⟨f - 1, by omega⟩
    cases hr
    refine ⟨τ, ?_, h⟩
    rw [s_Model_ahead_55]
    unfold s_Model_ahead_55_b
    rw [if_pos (nI_le (by omega) (by omega)), c4, a3, if_pos (ib_nI (by omega) (by omega)), if_pos (ib_nI (by omega) (by omega)), nI_clamp (show 4 * p < 2 ^ 31 by omega), nI_clamp (show 4 * p + 3 < 2 ^ 31 by omega), h.A (Or.inr rfl)]
    by_cases q : z = 0
    · rw [if_pos q, if_pos q]
      rfl
    · rw [if_neg q, if_neg q]
      rfl
  | succ r ih =>
    intro f y mm A A2 v v2 τ hm hy hf hA h hr
    obtain ⟨f, rfl⟩ : ∃ q, f = q + 1 := ⟨f - 1, by omega⟩
    unfold mRun at hr
    cases e : mMin L τ0 S P n0 ne go ex 1000 mm A v with
    | none => rw [e] at hr; cases hr
    | some q =>
      rw [e] at hr
      obtain ⟨⟨τ1, m1, m2⟩, hA1⟩ := m_goMinute hI hL (Or.inr rfl) G (by omega : mm < 101) (by omega : 1000 < 10000) hA h e
      obtain ⟨τ2, r1, r2⟩ := ih f (y + 1) (mm + 1) q.1 A2 q.2 v2 τ1 (by omega) (by omega) (by omega) hA1 m2 hr
      refine ⟨τ2, ?_, r2⟩
      rw [s_Model_ahead_55]
      unfold s_Model_ahead_55_b
      rw [if_neg (nI_ge (by omega) (by omega)), m1]
      simp only [xb1, xl]
      rw [nI_1]
      exact r1
theorem a_ahead (hD : Idep I) (hL : LKok I P S L) (X : QX I σ τ S P n0 n E go L ln qn sn mm M) (x y z : Int32) : QR I (s_Main_ahead x y z σ) (s_Model_ahead x y z τ) σ τ := by
  have X0 := X.z hD
  have hP8 := X.P8
  have hS8 := X.S8
  have hE := X.e100
  have hmE := X.mE
  have hM := X.M1
  have eC : s_Main_ahead x y z σ = if 0 ≤ x ∧ x < nI P then if 0 ≤ y ∧ y ≤ nI (E - mm) then if z = 0 ∨ z = 1 then xb1 (s_Guess_pass y σ) (fun σ15 => if z = 0 then (if ib x 8 then some (σ15.1 60 x.toNatClampNeg, σ15) else none) else (if ib x 8 then some (σ15.1 63 x.toNatClampNeg, σ15) else none)) else some (-1000000, σ) else some (-1000000, σ) else some (-1000000, σ) := by
    simp only [s_Main_ahead, s_Main_ahead_27, s_Main_ahead_69, g_isSitter X.hP hP8, X.gL, g_noC, xb2, ite10, ite01, ite_rg]
  have eM : s_Model_ahead x y z τ = if 0 ≤ x ∧ x < nI P then if 0 ≤ y ∧ y ≤ nI (E - mm) then if z = 0 ∨ z = 1 then xb1 (s_Model_copy 583 584 (stI τ 570 0 0)) (fun σ18 => s_Model_ahead_55 x y z FUEL 0 σ18) else some (-1000000, stI τ 570 0 0) else some (-1000000, stI τ 570 0 0) else some (-1000000, stI τ 570 0 0) := by
    simp only [s_Model_ahead, s_Model_ahead_37, xl, m_isSitter, X0.mP, X0.mL, m_in0, m_choice, xb2, ite10]
  by_cases q1 : 0 ≤ x ∧ x < nI P
  · by_cases q2 : 0 ≤ y ∧ y ≤ nI (E - mm)
    · by_cases q3 : z = 0 ∨ z = 1
      · rw [if_pos q1, if_pos q2, if_pos q3] at eC eM
        obtain ⟨p, hp, rfl⟩ := nI_ofx (by omega) q1.1 q1.2
        obtain ⟨g, rfl, -, hg⟩ := nI_btw (a := 0) (b := E - mm) (by omega) (by omega) q2.1 q2.2
        obtain ⟨w, A, b1, b2, R, we, hA⟩ := q_begin X0 (h := 59) (by unfold gh; omega)
        have X1 : QX I σ (stF (stI τ 570 0 0) 584 A) S P n0 n E go L ln qn sn mm M := X0.q FR.rf (FT.F (fun j => by unfold scM; omega)) ⟨X0.fin.1, X0.fin.2.1, by rw [stF_n (by omega)]; exact X0.fin.2.2.1, by rw [stF_n (by omega)]; exact X0.fin.2.2.2⟩ (hD.F X0.it (by omega))
        have mt := Mt.rf (a := 584) X1.it
        rw [stF_s] at mt
        obtain ⟨w', A', d, d1, r1, r2, r3⟩ := q_run (h := 59) (U := mm + g) (Z := mm + g) X1.1 X1.2.1 (by omega) X.cE hE R (by omega) (by omega) (by omega) (by omega) ((stF (stI τ 570 0 0) 584 A).1 570 41)
        rw [show mm + g - mm = g by omega] at r2
        obtain ⟨τ2, l1, l2⟩ := ahead_loop (p := p) (g := g) (Z := mm + g) (z := z) hD.cl hL X1.1.2.1 (by omega) (by omega) (by omega) g FUEL 0 mm A A' _ _ _ rfl (by omega) (by unfold FUEL; omega) R.2.1.1 mt r2
        rw [nI_0] at l1
        refine ⟨if z = 0 then A' (4 * p) else A' (4 * p + 3), sH σ 59 w', τ2, ?_, ?_, FR.g (by unfold gh; omega), (FT.z.tr (FT.F (fun j => by unfold scM; omega))).tr l2.ft, X1.fin.mt l2 (sH_lo (by omega)), l2.2⟩
        · rw [eC]
          unfold s_Guess_pass
          rw [b1]
          simp only [xb1]
          rw [sH_lo (b := 39) (by omega), X.cm, nI_add, r1]
          simp only
          rw [if_pos (ib_nI (by omega) (by omega)), if_pos (ib_nI (by omega) (by omega)), nI_clamp (show p < 2 ^ 31 by omega), sH_in (h := 59) (c := 1) (by omega), sH_in (h := 59) (c := 4) (by omega), r3.1.c1 p hp, r3.1.c4 p hp]
          by_cases q : z = 0
          · rw [if_pos q, if_pos q]
          · rw [if_neg q, if_neg q]
        · rw [eM, b2]
          simp only [xb1]
          rw [l1]
      · rw [if_pos q1, if_pos q2, if_neg q3] at eC eM
        exact QR.no X hD _ eC eM
    · rw [if_pos q1, if_neg q2] at eC eM
      exact QR.no X hD _ eC eM
  · rw [if_neg q1] at eC eM
    exact QR.no X hD _ eC eM
end
