/-! one going more: to the end; when -/
def sE (σ : LH) (x y d : Int32) : LH := stI (stI (stI σ 38 3 x) 38 4 y) 38 5 d
theorem g_addG {σ : LH} {x y d : Int32} : s_Evening_addGoing x y d σ = some (sE σ x y d) := rfl
theorem g_dropG {σ : LH} : s_Evening_dropGoing σ = some (stI σ 38 3 (-1)) := rfl
theorem sE_n {σ : LH} {x y d : Int32} {b : Nat} (hb : b ≠ 38) : (sE σ x y d).1 b = σ.1 b := by
  unfold sE
  rw [stI_n hb, stI_n hb, stI_n hb]
theorem sE_3 {σ : LH} {x y d : Int32} : (sE σ x y d).1 38 2 = σ.1 38 2 ∧ (sE σ x y d).1 38 3 = x ∧ (sE σ x y d).1 38 4 = y ∧ (sE σ x y d).1 38 5 = d := by
  unfold sE
  refine ⟨?_, ?_, ?_, ?_⟩
  · rw [stI_e, if_neg (by omega), stI_e, if_neg (by omega), stI_e, if_neg (by omega)]
  · rw [stI_e, if_neg (by omega), stI_e, if_neg (by omega), stI_e, if_pos rfl]
  · rw [stI_e, if_neg (by omega), stI_e, if_pos rfl]
  · rw [stI_e, if_pos rfl]
theorem FR.sE {σ : LH} {x y d : Int32} : FR scC σ (sE σ x y d) := ((FR.I (by unfold scC; omega)).tr (FR.I (by unfold scC; omega))).tr (FR.I (by unfold scC; omega))
/-- one more on the model's side -/
def mE (τ : LH) (x y d : Int32) : LH := stI (stI (stI (stI τ 587 0 x) 588 0 y) 589 0 d) 570 40 1
theorem m_extra {τ : LH} {x y d : Int32} (h : τ.1 570 40 = 0) : s_Model_extra x y d τ = some (mE τ x y d) := by
  unfold s_Model_extra
  simp only [xl]
  rw [h, if_pos (show ib 0 8 by decide), stI_n (b := 570) (by omega), h, if_pos (show ib 0 8 by decide), stI_n (b := 570) (by omega), stI_n (b := 570) (by omega), h, if_pos (show ib 0 8 by decide), stI_n (b := 570) (by omega), stI_n (b := 570) (by omega), stI_n (b := 570) (by omega), h]
  rfl
theorem mE_n {τ : LH} {x y d : Int32} {b : Nat} (h1 : b ≠ 570) (h2 : b < 587 ∨ 589 < b) : (mE τ x y d).1 b = τ.1 b := by
  unfold mE
  rw [stI_n h1, stI_n (by omega), stI_n (by omega), stI_n (by omega)]
theorem mE_f {τ : LH} {x y d : Int32} {j : Nat} (hj : j ≠ 40) : (mE τ x y d).1 570 j = τ.1 570 j := by
  unfold mE
  rw [stI_570, if_neg hj, stI_n (by omega), stI_n (by omega), stI_n (by omega)]
theorem mE_4 {τ : LH} {x y d : Int32} : (mE τ x y d).1 570 40 = 1 ∧ (mE τ x y d).1 587 0 = x ∧ (mE τ x y d).1 588 0 = y ∧ (mE τ x y d).1 589 0 = d := by
  unfold mE
  refine ⟨?_, ?_, ?_, ?_⟩
  · rw [stI_570, if_pos rfl]
  · rw [stI_n (by omega), stI_n (by omega), stI_n (by omega), stI_e, if_pos rfl]
  · rw [stI_n (by omega), stI_n (by omega), stI_e, if_pos rfl]
  · rw [stI_n (by omega), stI_e, if_pos rfl]
theorem FT.mE {τ : LH} {x y d : Int32} : FT scM τ (mE τ x y d) := (((FT.I (by unfold scM; omega)).tr (FT.I (by unfold scM; omega))).tr (FT.I (by unfold scM; omega))).tr (FT.I (by unfold scM; omega))
section
variable {I : LH → Prop} {σ τ σ' τ' : LH} {S P n0 ne ne' n E eN mm M : Nat} {go ex ex' : Nat → Nat} {who who' : Option Nat} {L : Nat → Nat → Nat → Int32} {ln : Nat → Nat → Nat → Nat} {qn sn : Nat → Nat}
theorem q_endx {h p t d : Nat} (hD : Idep I) (hL : LKok I P S L) (X : QX I σ τ S P n0 n E go L ln qn sn mm M) (hh : gh h) (hp : p < P) (hd : d < 100) {w : Wd} {A : Nat → Int32} (R : HR σ S P n mm M w A) : ∃ w' M' τc, s_Model_extra (nI p) (nI t) (nI d) (stF τ 584 A) = some (mE (stF τ 584 A) (nI p) (nI t) (nI d)) ∧ s_Model_toEnd 584 (mE (stF τ 584 A) (nI p) (nI t) (nI d)) = some τc ∧ s_Evening_run h (nI E) (sH (sE σ (nI p) (nI t) (nI d)) h w) = some (sH (sE σ (nI p) (nI t) (nI d)) h w') ∧ HR σ S P n E M' w' (τc.1 584) ∧ FR scC σ (stI (sH (sE σ (nI p) (nI t) (nI d)) h w') 38 3 (-1)) ∧ FT scM τ (stI τc 570 40 0) ∧ QX I (stI (sH (sE σ (nI p) (nI t) (nI d)) h w') 38 3 (-1)) (stI τc 570 40 0) S P n0 n E go L ln qn sn mm M := by
  have h39 : 39 ≤ h := by unfold gh at hh; omega
  have X1 := X.F (A := A) hD
  have hM := X.M1
  have hmE := X.mE
  have hE := X.e100
  have me := m_extra (x := nI p) (y := nI t) (d := nI d) X1.fin.2.2.2
  obtain ⟨e1, e2, e3, e4⟩ := sE_3 (σ := σ) (x := nI p) (y := nI t) (d := nI d)
  obtain ⟨f1, f2, f3, f4⟩ := mE_4 (τ := stF τ 584 A) (x := nI p) (y := nI t) (d := nI d)
  have f5 : (mE (stF τ 584 A) (nI p) (nI t) (nI d)).1 584 = A := by rw [mE_n (by omega) (by omega), stF_s]
  have hI1 : I (mE (stF τ 584 A) (nI p) (nI t) (nI d)) := hD _ _ X1.it (fun b hb => mE_n (by omega) (by omega)) (mE_f (by omega)) rfl
  have f81 : (mE (stF τ 584 A) (nI p) (nI t) (nI d)).1 581 1 = nI E := by rw [mE_n (by omega) (by omega)]; exact X1.tE
  have f39 : (mE (stF τ 584 A) (nI p) (nI t) (nI d)).1 570 39 = (stF τ 584 A).1 570 39 := mE_f (by omega)
  have fE : FT scM (stF τ 584 A) (mE (stF τ 584 A) (nI p) (nI t) (nI d)) := FT.mE
  generalize mE (stF τ 584 A) (nI p) (nI t) (nI d) = τb at *
  have K2 : LK (sE σ (nI p) (nI t) (nI d)) τb S P n0 1 n (E + 1) go (fun _ => p) (some p) L ln qn sn := X1.1.q FR.sE fE e1 f39 e2 (fun q hq => by cases hq; exact hp) f1 (by omega) (fun e he => by
    have : e = 0 := by omega
    subst this
    exact ⟨f2, hp⟩) (Or.inr ⟨p, d, rfl, rfl, rfl, by rw [f3, e3], by rw [f4, e4], e4, hd⟩)
  have R2 : HR (sE σ (nI p) (nI t) (nI d)) S P n mm M w (τb.1 584) := by rw [f5]; exact R.s (fun b hb => sE_n (by omega))
  obtain ⟨w', A', dd, τc, d1, r1, m1, m2, r3⟩ := q_toEnd (h := h) (U := E) (w := w) hD.cl hL K2 (X1.2.1.q FR.sE) h39 (by rw [sE_n (by omega)]; exact X1.cE) f81 hE hI1 R2 (by omega) (by omega) hmE (by omega)
  have eA := m2.A (Or.inr rfl)
  have fr : FR scC σ (stI (sH (sE σ (nI p) (nI t) (nI d)) h w') 38 3 (-1)) := (FR.sE.tr (FR.g hh)).tr (FR.I (by unfold scC; omega))
  have ft : FT scM (stF τ 584 A) (stI τc 570 40 0) := (fE.tr m2.ft).tr (FT.I (by unfold scM; omega))
  refine ⟨w', M + dd, τc, me, m1, r1, ?_, fr, FT.a.tr ft, X1.q fr ft ⟨?_, ?_, ?_, ?_⟩ (hD.I m2.2 (by omega))⟩
  · rw [eA]
    exact r3.s (fun b hb => (sE_n (by omega)).symm)
  · rw [stI_e, if_neg (by omega), sH_off (by unfold gh at hh; omega), e1]; exact X.fin.1
  · rw [stI_e, if_pos rfl]
  · rw [stI_570, if_neg (by omega), m2.fld (Or.inr rfl) (by omega) (by omega), f39]; exact X1.fin.2.2.1
  · rw [stI_570, if_pos rfl]
theorem when_loop (hD : Idep I) (hL : LKok I P S L) {p d g : Nat} {z : Int32} (hp : p < P) (hd : d < 100) (hg : g < 1000) : ∀ (r f f' k : Nat) (b mo : Int32) (σ τ : LH), k + r = min g (E - mm) → r < f → r < f' → QX I σ τ S P n0 n E go L ln qn sn mm M → σ.1 58 5 = b → ((k = 0 ∧ b = -1) ∨ (0 < k ∧ b ≠ -1 ∧ σ.1 58 6 = mo)) → ∃ σ' τ' b' mo', s_Guess_findMinute_8 (nI p) (nI d) (nI g) f (nI k) σ = some σ' ∧ s_Model_when_74 (nI p) (nI d) (nI g) z f' b mo (nI (mm + k)) τ = some (if z = 0 then b' else mo', τ') ∧ σ'.1 58 5 = b' ∧ (0 < k + r → σ'.1 58 6 = mo') ∧ FR scC σ σ' ∧ FT scM τ τ' ∧ QX I σ' τ' S P n0 n E go L ln qn sn mm M := by
  intro r
  induction r with
  | zero =>
    intro f f' k b mo σ τ hk hf hf' X hb hmo
    obtain ⟨f, rfl⟩ : ∃ q, f = q + 1 := ⟨f - 1, by omega⟩
    obtain ⟨f', rfl⟩ : ∃ q, f' = q + 1 := ⟨f' - 1, by omega⟩
    have hmE := X.mE
    have hE := X.e100
    refine ⟨σ, τ, b, mo, ?_, ?_, hb, fun h => (hmo.elim (fun z => by omega) (fun z => z.2.2)), FR.rf, FT.rf, X⟩
    · rw [s_Guess_findMinute_8]
      unfold s_Guess_findMinute_8_b s_Guess_findMinute_128
      by_cases q : g ≤ k
      · rw [if_pos (nI_le q (by omega))]
      · rw [if_neg (nI_ge (by omega) (by omega)), X.cE, X.cm, nI_add, if_pos (nI_le (by omega) (by omega))]
    · rw [s_Model_when_74]
      unfold s_Model_when_74_b s_Model_when_177 s_Model_when_189
      rw [if_pos (show ib 48 290 by decide), if_pos (show ib 1 2 by decide), show τ.1 583 (Int32.toNatClampNeg 48) = nI mm from X.tm, show τ.1 581 (Int32.toNatClampNeg 1) = nI E from X.tE, nI_add]
      have e : ∀ (a c : Option (Int32 × LH)), (if z = 0 then some (b, τ) else some (mo, τ)) = some (if z = 0 then b else mo, τ) := fun _ _ => by
        by_cases q : z = 0
        · rw [if_pos q, if_pos q]
        · rw [if_neg q, if_neg q]
      by_cases q : g ≤ k
      · rw [if_pos (nI_le (by omega) (by omega))]
        exact e none none
      · rw [if_neg (nI_ge (by omega) (by omega)), if_pos (nI_le (by omega) (by omega))]
        exact e none none
  | succ r ih =>
    intro f f' k b mo σ τ hk hf hf' X hb hmo
    obtain ⟨f, rfl⟩ : ∃ q, f = q + 1 := ⟨f - 1, by omega⟩
    obtain ⟨f', rfl⟩ : ∃ q, f' = q + 1 := ⟨f' - 1, by omega⟩
    have hmE := X.mE
    have hE := X.e100
    have hP8 := X.P8
    have hh : gh 59 := by unfold gh; omega
    have hS8 := X.S8
    have Ra : HR (sE σ (nI p) (nI (mm + k)) (nI d)) S P n mm M (gH (sE σ (nI p) (nI (mm + k)) (nI d)) 39) (τ.1 583) := (X.2.2.1.s (fun b hb => sE_n (by omega))).cp (FR.sE.we) hS8 hP8 (fun _ _ => rfl)
    obtain ⟨w, A, b1', b2, R', we, hA⟩ := q_begin0 Ra hS8 hP8 hh
    have R : HR σ S P n mm M w A := R'.s (fun b hb => (sE_n (by omega)).symm)
    obtain ⟨w', M', τc, x1, x2, x3, R2, fr, ft, X2⟩ := q_endx (t := mm + k) hD hL X hh hp hd R
    have jj := R2.1.c4 p hp
    have uC : s_Guess_findMinute_8 (nI p) (nI d) (nI g) (f + 1) (nI k) σ = s_Guess_findMinute_8 (nI p) (nI d) (nI g) f (nI (k + 1)) (if k = 0 ∨ σ.1 58 6 < w' 4 p then stI (stI (stI (sH (sE σ (nI p) (nI (mm + k)) (nI d)) 59 w') 38 3 (-1)) 58 5 (nI (mm + k))) 58 6 (w' 4 p) else stI (sH (sE σ (nI p) (nI (mm + k)) (nI d)) 59 w') 38 3 (-1)) := by
      rw [s_Guess_findMinute_8]
      unfold s_Guess_findMinute_8_b s_Guess_findMinute_119
      rw [if_neg (nI_ge (by omega) (by omega)), X.cE, X.cm, nI_add, if_neg (nI_ge (by omega) (by omega)), g_addG]
      simp only [xb1]
      rw [b1']
      simp only
      rw [sH_lo (b := 4) (by omega), sE_n (b := 4) (by omega), X.cE, x3]
      simp only
      rw [g_dropG]
      simp only
      rw [if_pos (ib_nI (by omega) (by omega)), nI_clamp (show p < 2 ^ 31 by omega), X2.cm, nI_add, stI_n (b := 63) (by omega), sH_in (h := 59) (c := 4) (by omega)]
      have e58 : (stI (sH (sE σ (nI p) (nI (mm + k)) (nI d)) 59 w') 38 3 (-1)).1 58 = σ.1 58 := by rw [stI_n (by omega), sH_lo (by omega), sE_n (by omega)]
      by_cases q : k = 0
      · rw [if_pos (show nI k = 0 by rw [q]; rfl), g_offer (Or.inr rfl), if_pos (Or.inl rfl), if_pos (Or.inl q)]
        simp only [xl, nI_1]
      · rw [if_neg (show ¬ nI k = 0 from fun z => q (nI_ij (b := 0) (by omega) (by omega) z)), g_offer (Or.inl rfl), e58]
        by_cases q2 : σ.1 58 6 < w' 4 p
        · rw [if_pos (Or.inr q2), if_pos (Or.inr q2)]
          simp only [xl, nI_1]
        · rw [if_neg (fun y => y.elim (fun y => absurd y (by decide)) q2), if_neg (fun y => y.elim q q2)]
          simp only [xl, nI_1]
    have e84 : (stI τc 570 40 0).1 584 (4 * p + 3) = w' 4 p := by rw [stI_n (by omega), jj]
    have uM : s_Model_when_74 (nI p) (nI d) (nI g) z (f' + 1) b mo (nI (mm + k)) τ = if b = -1 ∨ mo < w' 4 p then s_Model_when_74 (nI p) (nI d) (nI g) z f' (nI (mm + k)) (w' 4 p) (nI (mm + (k + 1))) (stI τc 570 40 0) else s_Model_when_74 (nI p) (nI d) (nI g) z f' b mo (nI (mm + (k + 1))) (stI τc 570 40 0) := by
      rw [s_Model_when_74]
      unfold s_Model_when_74_b s_Model_when_155 s_Model_when_171
      rw [if_pos (show ib 48 290 by decide), if_pos (show ib 1 2 by decide), show τ.1 583 (Int32.toNatClampNeg 48) = nI mm from X.tm, show τ.1 581 (Int32.toNatClampNeg 1) = nI E from X.tE, nI_add, if_neg (nI_ge (by omega) (by omega)), if_neg (nI_ge (by omega) (by omega)), b2]
      simp only [xb1]
      rw [x1]
      simp only
      rw [x2]
      simp only [xl]
      simp only [c4, a3, if_pos (show ib (nI (4 * p + 3)) 290 from ib_nI (by omega) (by omega)), nI_clamp (show 4 * p + 3 < 2 ^ 31 by omega), e84, nI_1, show mm + k + 1 = mm + (k + 1) by omega]
      by_cases q : b = -1
      · rw [if_pos q, if_pos (Or.inl q)]
      · rw [if_neg q]
        by_cases q2 : mo < w' 4 p
        · rw [if_pos q2, if_pos (Or.inr q2)]
        · rw [if_neg q2, if_neg (fun y => y.elim q q2)]
    have same : (k = 0 ∨ σ.1 58 6 < w' 4 p) ↔ (b = -1 ∨ mo < w' 4 p) := by
      rcases hmo with ⟨q1, q2⟩ | ⟨q1, q2, q3⟩
      · exact ⟨fun _ => Or.inl q2, fun _ => Or.inl q1⟩
      · rw [q3]
        exact ⟨fun y => y.elim (fun y => by omega) Or.inr, fun y => y.elim (fun y => absurd y q2) Or.inr⟩
    have e58 : (stI (sH (sE σ (nI p) (nI (mm + k)) (nI d)) 59 w') 38 3 (-1)).1 58 = σ.1 58 := by rw [stI_n (by omega), sH_lo (by omega), sE_n (by omega)]
    by_cases q : k = 0 ∨ σ.1 58 6 < w' 4 p
    · rw [if_pos q] at uC
      rw [if_pos (same.mp q)] at uM
      obtain ⟨σ3, τ3, b3, mo3, e1, e2, e3, e4, e5, e6, e7⟩ := ih f f' (k + 1) (nI (mm + k)) (w' 4 p) (stI (stI (stI (sH (sE σ (nI p) (nI (mm + k)) (nI d)) 59 w') 38 3 (-1)) 58 5 (nI (mm + k))) 58 6 (w' 4 p)) (stI τc 570 40 0) (by omega) (by omega) (by omega) X2.o.o (by rw [stI_e, if_neg (by omega), stI_e, if_pos rfl]) (Or.inr ⟨by omega, nI_m1 (by omega), by rw [stI_e, if_pos rfl]⟩)
      exact ⟨σ3, τ3, b3, mo3, uC.trans e1, uM.trans e2, e3, fun _ => e4 (by omega), ((fr.tr f58).tr f58).tr e5, ft.tr e6, e7⟩
    · rw [if_neg q] at uC
      rw [if_neg (fun y => q (same.mpr y))] at uM
      have hmo2 : 0 < k ∧ b ≠ -1 ∧ σ.1 58 6 = mo := hmo.elim (fun y => absurd (Or.inl y.1) q) id
      obtain ⟨σ3, τ3, b3, mo3, e1, e2, e3, e4, e5, e6, e7⟩ := ih f f' (k + 1) b mo _ (stI τc 570 40 0) (by omega) (by omega) (by omega) X2 (by rw [e58]; exact hb) (Or.inr ⟨by omega, hmo2.2.1, by rw [e58]; exact hmo2.2.2⟩)
      exact ⟨σ3, τ3, b3, mo3, uC.trans e1, uM.trans e2, e3, fun _ => e4 (by omega), fr.tr e5, ft.tr e6, e7⟩
theorem a_when (hD : Idep I) (hL : LKok I P S L) (X : QX I σ τ S P n0 n E go L ln qn sn mm M) (x y u z : Int32) : QR I (s_Main_when x y u z σ) (s_Model_when x y u z τ) σ τ := by
  have X0 := X.z hD
  have hP8 := X.P8
  have hE := X.e100
  have hmE := X.mE
  by_cases q1 : 0 ≤ x ∧ x < nI P
  · obtain ⟨p, hp, rfl⟩ := nI_ofx (by omega) q1.1 q1.2
    have gS : s_Main_isSitter (nI p) σ = some (1, σ) := by rw [g_isSitter X.hP hP8, if_pos q1]
    have mS : s_Model_isSitter (nI p) (stI τ 570 0 0) = some (1, stI τ 570 0 0) := by rw [m_isSitter, X0.mP, if_pos q1]
    have mO := m_isOpen (τ := stI τ 570 0 0) (mm := mm) (c := E - mm) X0.mP hP8 (by omega) (by rw [show mm + (E - mm) = E by omega]; exact X0.tE) X0.tm (by omega)
    have lt1 : (nI (E - mm) < 1) ↔ E - mm = 0 := by
      rw [show (1 : Int32) = nI 1 from rfl, nI_ltI (by omega) (by omega)]
      omega
    have eC : s_Main_when (nI p) y u z σ = if 1 ≤ y ∧ y ≤ 9 then if 1 ≤ u ∧ u ≤ 30 then if E - mm = 0 then some (-1000000, σ) else if z = 0 ∨ z = 1 then xb1 (s_Guess_findMinute (nI p) y u σ) (fun σ18 => if z = 0 then some (σ18.1 58 5, σ18) else some (σ18.1 58 6, σ18)) else some (-1000000, σ) else some (-1000000, σ) else some (-1000000, σ) := by
      unfold s_Main_when s_Main_when_30 s_Main_when_49 s_Main_when_84
      rw [gS]
      simp only [xb2]
      rw [if_neg (show ¬ (1 : Int32) = 0 by decide), X.gL]
      simp only [g_noC, ite01, ite_rg, ite_rg2, lt1]
    have eM : s_Model_when (nI p) y u z τ = if 1 ≤ y ∧ y ≤ 9 then if 1 ≤ u ∧ u ≤ 30 then if z = 0 ∨ z = 1 then if E - mm = 0 then some (-1000000, stI τ 570 0 0) else s_Model_when_74 (nI p) y u z FUEL (-1) 0 (nI mm) (stI τ 570 0 0) else some (-1000000, stI τ 570 0 0) else some (-1000000, stI τ 570 0 0) else some (-1000000, stI τ 570 0 0) := by
      unfold s_Model_when s_Model_when_55
      simp only [xl]
      rw [mS]
      simp only [xb2]
      rw [if_neg (show ¬ (1 : Int32) = 0 by decide)]
      simp only [m_in19, m_in130, m_choice, mO, ite10, ite01]
      rw [if_pos (show ib 48 290 by decide), show (stI τ 570 0 0).1 583 (Int32.toNatClampNeg 48) = nI mm from X0.tm]
    by_cases q2 : 1 ≤ y ∧ y ≤ 9
    · by_cases q3 : 1 ≤ u ∧ u ≤ 30
      · by_cases q4 : z = 0 ∨ z = 1
        · by_cases q5 : E - mm = 0
          · rw [if_pos q2, if_pos q3, if_pos q5] at eC
            rw [if_pos q2, if_pos q3, if_pos q4, if_pos q5] at eM
            exact QR.no X hD _ eC eM
          · rw [if_pos q2, if_pos q3, if_neg q5, if_pos q4] at eC
            rw [if_pos q2, if_pos q3, if_pos q4, if_neg q5] at eM
            obtain ⟨d, rfl, d1, d2⟩ := nI_btw (a := 1) (b := 9) (by omega) (by omega) q2.1 q2.2
            obtain ⟨g, rfl, g1, g2⟩ := nI_btw (a := 1) (b := 30) (by omega) (by omega) q3.1 q3.2
            obtain ⟨σ3, τ3, b3, mo3, e1, e2, e3, e4, e5, e6, e7⟩ := when_loop (E := E) (mm := mm) (z := z) (d := d) (g := g) hD hL hp (by omega) (by omega) (min g (E - mm)) FUEL FUEL 0 (-1) 0 (stI σ 58 5 (-1)) (stI τ 570 0 0) (by omega) (by unfold FUEL; omega) (by unfold FUEL; omega) X0.o (by rw [stI_e, if_pos rfl]) (Or.inl ⟨rfl, rfl⟩)
            rw [nI_0] at e1
            rw [show mm + 0 = mm from rfl] at e2
            refine ⟨_, σ3, τ3, ?_, eM.trans e2, f58.tr e5, FT.z.tr e6, e7.fin, e7.it⟩
            rw [eC]
            unfold s_Guess_findMinute
            simp only [xl]
            rw [e1]
            simp only [xb1]
            rw [e3, e4 (by omega)]
            by_cases q : z = 0
            · rw [if_pos q, if_pos q]
            · rw [if_neg q, if_neg q]
        · rw [if_pos q2, if_pos q3, if_neg q4] at eM
          rw [if_pos q2, if_pos q3, if_neg q4, ite_self] at eC
          exact QR.no X hD _ eC eM
      · rw [if_pos q2, if_neg q3] at eC eM
        exact QR.no X hD _ eC eM
    · rw [if_neg q2] at eC eM
      exact QR.no X hD _ eC eM
  · refine QR.no X hD (-1000000) ?_ ?_
    · unfold s_Main_when s_Main_when_30
      rw [g_isSitter X.hP hP8, if_neg q1]
      rfl
    · unfold s_Model_when s_Model_when_55
      simp only [xl]
      rw [m_isSitter, X0.mP, if_neg q1]
      rfl
end
