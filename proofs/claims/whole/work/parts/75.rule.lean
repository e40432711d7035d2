/-! rule -/
section
variable {I : LH → Prop} {σ τ σ' τ' : LH} {S P n0 ne ne' n E eN mm M : Nat} {go ex ex' : Nat → Nat} {who who' : Option Nat} {L : Nat → Nat → Nat → Int32} {ln : Nat → Nat → Nat → Nat} {qn sn : Nat → Nat}
theorem QX.cM (X : QX I σ τ S P n0 n E go L ln qn sn mm M) : σ.1 39 8 = nI M := X.2.2.1.2.2.2
def kpW (c : Nat) (q : Nat) (w : Wd) : Wd := u2 w 3 q (nI c)
def kpA (c : Nat) (q : Nat) (A : Nat → Int32) : Nat → Int32 := upd A (4 * q + 2) (nI c)
theorem kp_c {c : Nat} (hP : σ.1 4 1 = nI P) (hP8 : P ≤ 8) {rec2 : Int32 → LH → Option LH} : ∀ (m f q : Nat) (w : Wd), q + m = P → m < f → ∃ f', s_Guess_findRule_21 rec2 f (nI c) (nI q) (sH σ 59 w) = s_Guess_findRule_21 rec2 (f' + 1) (nI c) (nI P) (sH σ 59 (itr (kpW c) m q w)) := by
  intro m
  induction m with
  | zero =>
    intro f q w hq hf
    obtain ⟨f, rfl⟩ : ∃ q, f = q + 1 := ⟨f - 1, by omega⟩
    exact ⟨f, by rw [show q = P by omega]; rfl⟩
  | succ m ih =>
    intro f q w hq hf
    obtain ⟨f, rfl⟩ : ∃ q, f = q + 1 := ⟨f - 1, by omega⟩
    obtain ⟨f', e⟩ := ih f (q + 1) (kpW c q w) (by omega) (by omega)
    refine ⟨f', ?_⟩
    rw [show itr (kpW c) (m + 1) q w = itr (kpW c) m (q + 1) (kpW c q w) from rfl, ← e]
    conv => lhs; rw [s_Guess_findRule_21]
    unfold s_Guess_findRule_21_b
    rw [sH_lo (b := 4) (by omega), hP, if_neg (nI_ge (by omega) (by omega)), if_pos (ib_nI (by omega) (by omega)), nI_clamp (show q < 2 ^ 31 by omega)]
    simp only [xl]
    rw [show stI (sH σ 59 w) 62 q (nI c) = sH σ 59 (u2 w 3 q (nI c)) from sH_stI (h := 59) (c := 3) (by omega), nI_1]
    rfl
theorem kp_m {c : Nat} {z y2 y3 : Int32} (hP : τ.1 570 27 = nI P) (hP8 : P ≤ 8) {rec31 : Int32 → Int32 → Int32 → LH → Option (Int32 × LH)} : ∀ (m f q : Nat) (A : Nat → Int32), q + m = P → m < f → ∃ f', s_Model_rule_52 z rec31 f y2 y3 (nI c) (nI q) (stF τ 584 A) = s_Model_rule_52 z rec31 (f' + 1) y2 y3 (nI c) (nI P) (stF τ 584 (itr (kpA c) m q A)) := by
  intro m
  induction m with
  | zero =>
    intro f q A hq hf
    obtain ⟨f, rfl⟩ : ∃ q, f = q + 1 := ⟨f - 1, by omega⟩
    exact ⟨f, by rw [show q = P by omega]; rfl⟩
  | succ m ih =>
    intro f q A hq hf
    obtain ⟨f, rfl⟩ : ∃ q, f = q + 1 := ⟨f - 1, by omega⟩
    obtain ⟨f', e⟩ := ih f (q + 1) (kpA c q A) (by omega) (by omega)
    refine ⟨f', ?_⟩
    rw [show itr (kpA c) (m + 1) q A = itr (kpA c) m (q + 1) (kpA c q A) from rfl, ← e]
    conv => lhs; rw [s_Model_rule_52]
    unfold s_Model_rule_52_b
    rw [stF_n (by omega), hP, if_neg (nI_ge (by omega) (by omega)), c4, Jvm.Pilot.CLostPlacesLaw_law_r3427_12969d.a2, if_pos (ib_nI (by omega) (by omega)), nI_clamp (show 4 * q + 2 < 2 ^ 31 by omega)]
    simp only [xl]
    rw [stI_F, nI_1]
    rfl
theorem HR.kps {c : Nat} (hS8 : S ≤ 8) (hP8 : P ≤ 8) (hc : c ≤ 9) {w : Wd} {A : Nat → Int32} (R : HR σ S P n mm M w A) : HR σ S P n mm M (itr (kpW c) P 0 w) (itr (kpA c) P 0 A) := q_itr (Q := HR σ S P n mm M) (f := kpW c) (g := kpA c) (n := P) (fun k w A hk R => R.keep (p := k) hS8 hP8 hk hc) P 0 w A (by omega) R
theorem sb_lt {M a b : Nat} (hM : M < 1000000) (ha : a < 1000000) (hb : b < 1000000) : (nI M - nI (M + a) < nI M - nI (M + b)) ↔ (nI b < nI a) := by
  rw [nI_ltI (by omega) (by omega), Int32.lt_iff_toInt_lt, pk_sub_toInt (by omega) (by omega), pk_sub_toInt (by omega) (by omega)]
  omega
theorem rule_loop (hD : Idep I) (hL : LKok I P S L) {z : Int32} : ∀ (r f f' k : Nat) (b mo : Int32) (σ τ : LH), k + r = 10 → r < f → r < f' → QX I σ τ S P n0 n E go L ln qn sn mm M → σ.1 58 5 = b ∨ k = 0 → ((k = 0 ∧ b = -1) ∨ (0 < k ∧ b ≠ -1 ∧ ∃ dm, dm ≤ 100000 ∧ σ.1 58 6 = nI M - nI (M + dm) ∧ mo = nI dm)) → ∃ σ' τ' b' mo', s_Guess_findRule_2 f (nI k) σ = some σ' ∧ s_Model_rule_31 z f' b mo (nI k) τ = some (if z = 0 then b' else mo', τ') ∧ (0 < k + r → σ'.1 58 5 = b' ∧ σ'.1 58 6 = mo') ∧ FR scC σ σ' ∧ FT scM τ τ' ∧ QX I σ' τ' S P n0 n E go L ln qn sn mm M := by
  intro r
  induction r with
  | zero =>
    intro f f' k b mo σ τ hk hf hf' X hb hmo
    obtain ⟨f, rfl⟩ : ∃ q, f = q + 1 := ⟨f - 1, by omega⟩
    obtain ⟨f', rfl⟩ : ∃ q, f' = q + 1 := ⟨f' - 1, by omega⟩
    have hk10 : k = 10 := by omega
    subst hk10
    refine ⟨stI σ 58 6 (-(σ.1 58 6)), τ, b, mo, ?_, ?_, fun _ => ?_, f58, FT.rf, X.o⟩
    · rw [s_Guess_findRule_2]
      unfold s_Guess_findRule_2_b
      rw [if_pos (show (9 : Int32) < nI 10 by decide)]
      rfl
    · rw [s_Model_rule_31]
      unfold s_Model_rule_31_b s_Model_rule_127
      rw [if_pos (show (10 : Int32) ≤ nI 10 from Int32.le_refl _)]
      by_cases q : z = 0
      · rw [if_pos q, if_pos q]
      · rw [if_neg q, if_neg q]
    · rcases hmo with y | ⟨y1, y2, dm, y3, y4, y5⟩
      · omega
      · refine ⟨?_, ?_⟩
        · rw [stI_e, if_neg (by omega)]
          exact hb.resolve_right (by omega)
        · rw [stI_e, if_pos rfl, y4, y5, Int32.neg_sub, nI_sb]
  | succ r ih =>
    intro f f' k b mo σ τ hk hf hf' X hb hmo
    obtain ⟨f, rfl⟩ : ∃ q, f = q + 1 := ⟨f - 1, by omega⟩
    obtain ⟨f', rfl⟩ : ∃ q, f' = q + 1 := ⟨f' - 1, by omega⟩
    have hS8 := X.S8
    have hP8 := X.P8
    have hM := X.M1
    have hmE := X.mE
    have hE := X.e100
    have hh : gh 59 := by unfold gh; omega
    obtain ⟨w, A, b1, b2, R, we, hA⟩ := q_begin X hh
    obtain ⟨w', d, τ1, d1, r1, m1, R2, f1, f41, X2⟩ := q_end hD hL X hh (R.kps hS8 hP8 (show k ≤ 9 by omega))
    obtain ⟨g, kc⟩ := kp_c (σ := σ) (c := k) (rec2 := s_Guess_findRule_2 f) X.hP hP8 P FUEL 0 w (by omega) (by unfold FUEL; omega)
    obtain ⟨g', km⟩ := kp_m (τ := τ) (c := k) (z := z) (y2 := b) (y3 := mo) (rec31 := s_Model_rule_31 z f') X.mP hP8 P FUEL 0 A (by omega) (by unfold FUEL; omega)
    have e58 : (sH σ 59 w').1 58 = σ.1 58 := sH_lo (by omega)
    have m8 : (sH σ 59 w').1 59 8 = nI (M + d) := by rw [sH_in0]; exact R2.2.2.2
    have uC : s_Guess_findRule_2 (f + 1) (nI k) σ = s_Guess_findRule_2 f (nI (k + 1)) (if k = 0 ∨ σ.1 58 6 < nI M - nI (M + d) then stI (stI (sH σ 59 w') 58 5 (nI k)) 58 6 (nI M - nI (M + d)) else sH σ 59 w') := by
      rw [s_Guess_findRule_2]
      unfold s_Guess_findRule_2_b
      rw [if_neg (show ¬ (9 : Int32) < nI k from nI_nlt (b := k) (a := 9) (by omega) (by omega)), b1]
      simp only [xb1]
      rw [nI_0] at kc
      rw [kc]
      conv => lhs; rw [s_Guess_findRule_21]
      unfold s_Guess_findRule_21_b s_Guess_findRule_92
      rw [sH_lo (b := 4) (by omega), X.hP, if_pos (Int32.le_refl _), X.cE, r1]
      simp only [xb1]
      rw [m8, sH_lo (b := 39) (by omega), X.cM]
      by_cases q : k = 0
      · rw [if_pos (show nI k = 0 by rw [q]; rfl), g_offer (Or.inr rfl), if_pos (Or.inl rfl), if_pos (Or.inl q)]
        simp only [xl, nI_1]
      · rw [if_neg (show ¬ nI k = 0 from fun y => q (nI_ij (b := 0) (by omega) (by omega) y)), g_offer (Or.inl rfl), e58]
        by_cases q2 : σ.1 58 6 < nI M - nI (M + d)
        · rw [if_pos (Or.inr q2), if_pos (Or.inr q2)]
          simp only [xl, nI_1]
        · rw [if_neg (fun y => y.elim (fun y => absurd y (by decide)) q2), if_neg (fun y => y.elim q q2)]
          simp only [xl, nI_1]
    have uM : s_Model_rule_31 z (f' + 1) b mo (nI k) τ = if b = -1 ∨ nI d < mo then s_Model_rule_31 z f' (nI k) (nI d) (nI (k + 1)) τ1 else s_Model_rule_31 z f' b mo (nI (k + 1)) τ1 := by
      rw [s_Model_rule_31]
      unfold s_Model_rule_31_b
      rw [if_neg (show ¬ (10 : Int32) ≤ nI k from nI_ge (b := 10) (by omega) (by omega)), b2]
      simp only [xb1]
      rw [nI_0] at km
      rw [km]
      conv => lhs; rw [s_Model_rule_52]
      unfold s_Model_rule_52_b s_Model_rule_104 s_Model_rule_112
      rw [stF_n (by omega), X.mP, if_pos (Int32.le_refl _), m1]
      simp only [xb1, xl]
      rw [f41, nI_1]
      by_cases q : b = -1
      · rw [if_pos q, if_pos (Or.inl q)]
      · rw [if_neg q]
        by_cases q2 : nI d < mo
        · rw [if_pos q2, if_pos (Or.inr q2)]
        · rw [if_neg q2, if_neg (fun y => y.elim q q2)]
    have same : (k = 0 ∨ σ.1 58 6 < nI M - nI (M + d)) ↔ (b = -1 ∨ nI d < mo) := by
      rcases hmo with ⟨q1, q2⟩ | ⟨q1, q2, dm, q3, q4, q5⟩
      · exact ⟨fun _ => Or.inl q2, fun _ => Or.inl q1⟩
      · rw [q4, q5, sb_lt (by omega) (by omega) (by omega)]
        exact ⟨fun y => y.elim (fun y => by omega) Or.inr, fun y => y.elim (fun y => absurd y q2) Or.inr⟩
    by_cases q : k = 0 ∨ σ.1 58 6 < nI M - nI (M + d)
    · rw [if_pos q] at uC
      rw [if_pos (same.mp q)] at uM
      obtain ⟨σ3, τ3, b3, mo3, e1, e2, e3, e5, e6, e7⟩ := ih f f' (k + 1) (nI k) (nI d) (stI (stI (sH σ 59 w') 58 5 (nI k)) 58 6 (nI M - nI (M + d))) τ1 (by omega) (by omega) (by omega) X2.o.o (Or.inl (by rw [stI_e, if_neg (by omega), stI_e, if_pos rfl])) (Or.inr ⟨by omega, nI_m1 (by omega), d, d1, by rw [stI_e, if_pos rfl], rfl⟩)
      exact ⟨σ3, τ3, b3, mo3, uC.trans e1, uM.trans e2, fun _ => e3 (by omega), (((FR.g hh).tr f58).tr f58).tr e5, f1.tr e6, e7⟩
    · rw [if_neg q] at uC
      rw [if_neg (fun y => q (same.mpr y))] at uM
      obtain ⟨q1, q2, dm, q3, q4, q5⟩ := hmo.elim (fun y => absurd (Or.inl y.1) q) id
      obtain ⟨σ3, τ3, b3, mo3, e1, e2, e3, e5, e6, e7⟩ := ih f f' (k + 1) b mo (sH σ 59 w') τ1 (by omega) (by omega) (by omega) X2 (Or.inl (by rw [e58]; exact hb.resolve_right (by omega))) (Or.inr ⟨by omega, q2, dm, q3, by rw [e58]; exact q4, q5⟩)
      exact ⟨σ3, τ3, b3, mo3, uC.trans e1, uM.trans e2, fun _ => e3 (by omega), (FR.g hh).tr e5, f1.tr e6, e7⟩
theorem g_hasRoom (X : QX I σ τ S P n0 n E go L ln qn sn mm M) : s_Main_hasRoom σ = some (if P = 0 then 0 else 1, σ) := by
  have hS8 := X.S8
  unfold s_Main_hasRoom s_Main_hasRoom_15
  rw [X.hS]
  by_cases q : S = 0
  · rw [if_pos (show nI S ≤ 0 by rw [q]; decide), if_pos (X.sp.mp q), if_pos (Or.inl rfl)]
  · rw [if_neg (show ¬ nI S ≤ 0 from nI_nle (by omega) (by omega)), if_neg (fun z => q (X.sp.mpr z)), if_pos (Or.inr rfl)]
theorem m_noRoom (X : QX I σ τ S P n0 n E go L ln qn sn mm M) : (τ.1 570 27 = 0) ↔ (P = 0) := by
  have hP8 := X.P8
  rw [X.mP]
  exact ⟨fun z => nI_ij (b := 0) (by omega) (by omega) z, fun z => by rw [z]; rfl⟩
theorem a_rule (hD : Idep I) (hL : LKok I P S L) (X : QX I σ τ S P n0 n E go L ln qn sn mm M) (z : Int32) : QR I (s_Main_rule z σ) (s_Model_rule z τ) σ τ := by
  have X0 := X.z hD
  have eC : s_Main_rule z σ = if P = 0 then some (-1, σ) else if z = 0 ∨ z = 1 then xb1 (s_Guess_findRule σ) (fun σ10 => if z = 0 then some (σ10.1 58 5, σ10) else some (σ10.1 58 6, σ10)) else some (-1, σ) := by
    unfold s_Main_rule s_Main_rule_14 s_Main_rule_44
    rw [g_hasRoom X]
    simp only [xb2, ite01, g_noC]
  have eM : s_Model_rule z τ = if P = 0 then some (-1, stI τ 570 0 0) else if z = 0 ∨ z = 1 then s_Model_rule_31 z FUEL (-1) 0 0 (stI τ 570 0 0) else some (-1, stI τ 570 0 0) := by
    unfold s_Model_rule s_Model_rule_22
    simp only [xl, m_noRoom X0, m_choice, xb2, ite10]
  by_cases q1 : P = 0
  · rw [if_pos q1] at eC eM
    exact QR.no X hD _ eC eM
  · by_cases q3 : z = 0 ∨ z = 1
    · rw [if_neg q1, if_pos q3] at eC eM
      obtain ⟨σ3, τ3, b3, mo3, e1, e2, e3, e5, e6, e7⟩ := rule_loop (z := z) hD hL 10 FUEL FUEL 0 (-1) 0 σ (stI τ 570 0 0) (by omega) (by unfold FUEL; omega) (by unfold FUEL; omega) X0 (Or.inr rfl) (Or.inl ⟨rfl, rfl⟩)
      rw [nI_0] at e1 e2
      refine ⟨_, σ3, τ3, ?_, eM.trans e2, e5, FT.z.tr e6, e7.fin, e7.it⟩
      rw [eC]
      unfold s_Guess_findRule
      rw [e1]
      simp only [xb1]
      rw [(e3 (by omega)).1, (e3 (by omega)).2]
      by_cases q : z = 0
      · rw [if_pos q, if_pos q]
      · rw [if_neg q, if_neg q]
    · rw [if_neg q1, if_neg q3] at eC eM
      exact QR.no X hD _ eC eM
end
