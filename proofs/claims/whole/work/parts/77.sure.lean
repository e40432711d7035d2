/-! sure -/
section
variable {I : LH → Prop} {σ τ σ' τ' : LH} {S P n0 ne ne' n E eN mm M : Nat} {go ex ex' : Nat → Nat} {who who' : Option Nat} {L : Nat → Nat → Nat → Int32} {ln : Nat → Nat → Nat → Nat} {qn sn : Nat → Nat}
theorem e_run0 {h U : Nat} {w : Wd} (h39 : 39 ≤ h) (hEc : σ.1 4 15 = nI E) (hE : E < 100) (hU : U < 2 ^ 30) (hm : w 0 7 = nI mm) (hm1 : mm < 2 ^ 30) (hZ : min U E ≤ mm) : s_Evening_run h (nI U) (sH σ h w) = some (sH σ h w) := by
  have st : ∀ x, x ≤ mm → s_Evening_run_22 h (nI U) (nI x) (sH σ h w) = some (sH σ h w) := fun x hx => by
    unfold s_Evening_run_22
    rw [show FUEL = 99999 + 1 from rfl, s_Evening_run_26]
    unfold s_Evening_run_26_b s_Evening_run_76
    rw [if_neg (show ¬ (100 : Int32) ≤ 0 by decide), sH_in0, hm, if_pos (nI_le hx (by omega))]
  unfold s_Evening_run
  rw [sH_lo (b := 4) (by omega), hEc]
  by_cases q : E ≤ U
  · rw [if_pos (nI_le q (by omega))]
    exact st E (by omega)
  · rw [if_neg (nI_ge (by omega) (by omega))]
    exact st U (by omega)
theorem sure_m1 (hI : Icl I) (hL : LKok I P S L) {τ0 : LH} (G : MGo τ0 S P n0 ne go ex) {p F : Nat} {y : Int32} (hp : p < 8) (hE : τ0.1 581 1 = nI E) (hF : τ0.1 581 0 = nI F) (hE1 : E < 100) (hF1 : F < 100) : ∀ (r f mm : Nat) (A A2 : Nat → Int32) (v v2 : Int32) (τ : LH), mm + r ≤ F → mm + r ≤ E → r ≤ f → AOk S P mm A → Mt I τ0 584 A v τ → mRun L τ0 S P n0 ne go ex 1000 r mm A v = some (A2, v2) → ∃ τ', s_Model_sure_35 (nI p) f y τ = s_Model_sure_35 (nI p) (f - r) y τ' ∧ Mt I τ0 584 A2 v2 τ' := by
  intro r
  induction r with
  | zero =>
    intro f mm A A2 v v2 τ _ _ _ hA h hr
    cases hr
    exact ⟨τ, rfl, h⟩
  | succ r ih =>
    intro f mm A A2 v v2 τ h1 h2 hf hA h hr
    obtain ⟨f, rfl⟩ : ∃ q, f = q + 1 := ⟨f - 1, by omega⟩
    unfold mRun at hr
    cases e : mMin L τ0 S P n0 ne go ex 1000 mm A v with
    | none => rw [e] at hr; cases hr
    | some q =>
      rw [e] at hr
      obtain ⟨⟨τ1, m1, m2⟩, hA1⟩ := m_goMinute hI hL (Or.inr rfl) G (by omega : mm < 101) (by omega : 1000 < 10000) hA h e
      obtain ⟨τ2, r1, r2⟩ := ih f (mm + 1) q.1 A2 q.2 v2 τ1 (by omega) (by omega) (by omega) hA1 m2 hr
      refine ⟨τ2, ?_, r2⟩
      rw [show f + 1 - (r + 1) = f - r by omega, ← r1]
      conv => lhs; rw [s_Model_sure_35]
      unfold s_Model_sure_35_b s_Model_sure_72 s_Model_sure_113
      have a81 : τ.1 581 = τ0.1 581 := h.arr (by omega) (by omega) (by omega) (by omega)
      have a84 := h.A (Or.inr rfl)
      rw [if_pos (show ib 48 290 by decide), if_pos (show ib 1 2 by decide), if_pos (show ib 48 290 by decide), if_pos (show ib 0 2 by decide), a81, a84, show A (Int32.toNatClampNeg 48) = nI mm from hA.2.1, show τ0.1 581 (Int32.toNatClampNeg 1) = nI E from hE, show τ0.1 581 (Int32.toNatClampNeg 0) = nI F from hF, if_neg (nI_ge (by omega) (by omega)), if_pos (nI_lt (by omega) (by omega)), m1]
      simp only [xb1]
      rw [if_pos trivial]
theorem sure_2 (hI : Icl I) (hL : LKok I P S L) {τ0 : LH} (K : LK σ τ0 S P n0 ne n (E + 1) go ex who L ln qn sn) (hEc : σ.1 4 15 = nI E) (hEm : τ0.1 581 1 = nI E) {p F : Nat} (hp : p < P) (hF : τ0.1 581 0 = nI F) (hE1 : E < 100) (hF1 : F < 100) : ∀ (r c f f' mm M : Nat) (w : Wd) (A : Nat → Int32) (y v : Int32) (τ : LH), mm + r = E → (0 < r → F ≤ mm) → c + r < 100 → r < f → r < f' → HR σ S P n mm M w A → M ≤ 1000 * mm → Mt I τ0 584 A v τ → ∃ y' w' A' v' τ', s_Guess_sureSeats_43 (nI p) f y (nI c) (sH σ 59 w) = some (y', sH σ 59 w') ∧ s_Model_sure_35 (nI p) f' y τ = some (y', τ') ∧ Mt I τ0 584 A' v' τ' := by
  have hP8 : P ≤ 8 := K.1.2.2.2.1
  intro r
  induction r with
  | zero =>
    intro c f f' mm M w A y v τ hm hFm hc hf hf' R hM h
    obtain ⟨f, rfl⟩ : ∃ q, f = q + 1 := ⟨f - 1, by omega⟩
    obtain ⟨f', rfl⟩ : ∃ q, f' = q + 1 := ⟨f' - 1, by omega⟩
    refine ⟨y, w, A, v, τ, ?_, ?_, h⟩
    · rw [s_Guess_sureSeats_43]
      unfold s_Guess_sureSeats_43_b s_Guess_sureSeats_110
      rw [if_neg (show ¬ (100 : Int32) ≤ nI c from nI_ge (b := 100) (by omega) (by omega)), sH_lo (b := 4) (by omega), sH_in0, hEc, R.1.m.trans R.2.1.1.2.1, if_pos (nI_le (by omega) (by omega))]
    · rw [s_Model_sure_35]
      unfold s_Model_sure_35_b
      have a81 : τ.1 581 = τ0.1 581 := h.arr (by omega) (by omega) (by omega) (by omega)
      rw [if_pos (show ib 48 290 by decide), if_pos (show ib 1 2 by decide), a81, h.A (Or.inr rfl), show A (Int32.toNatClampNeg 48) = nI mm from R.2.1.1.2.1, show τ0.1 581 (Int32.toNatClampNeg 1) = nI E from hEm, if_pos (nI_le (by omega) (by omega))]
  | succ r ih =>
    intro c f f' mm M w A y v τ hm hFm hc hf hf' R hM h
    obtain ⟨f, rfl⟩ : ∃ q, f = q + 1 := ⟨f - 1, by omega⟩
    obtain ⟨f', rfl⟩ : ∃ q, f' = q + 1 := ⟨f' - 1, by omega⟩
    obtain ⟨w1, A1, d, rr, d1, d2, d3, d4, d5, d6, d7, -⟩ := st_minute K (show 39 ≤ 59 by omega) (by omega : mm < 100) (by omega) R.1 R.2.1 R.2.2.1 R.2.2.2 (by omega) v
    obtain ⟨⟨τ1, m1, m2⟩, -⟩ := m_goMinute hI hL (Or.inr rfl) K.2.1 (by omega : mm < 101) (by omega : 1000 < 10000) R.2.1.1 h d3
    have c1 := d4.c1 p hp
    obtain ⟨y', w', A', v', τ', e1, e2, e3⟩ := ih (c + 1) f f' (mm + 1) (M + d) w1 A1 (y &&& (if A1 (4 * p) < 0 then (0 : Int32) else 1 <<< (A1 (4 * p) &&& 31))) (v + nI d) τ1 (by omega) (fun _ => by have := hFm (by omega); omega) (by omega) (by omega) (by omega) ⟨d4, d5, d6, d7⟩ (by omega) m2
    refine ⟨y', w', A', v', τ', ?_, ?_, e3⟩
    · rw [← e1]
      conv => lhs; rw [s_Guess_sureSeats_43]
      unfold s_Guess_sureSeats_43_b s_Guess_sureSeats_102
      rw [if_neg (show ¬ (100 : Int32) ≤ nI c from nI_ge (b := 100) (by omega) (by omega)), sH_lo (b := 4) (by omega), sH_in0, hEc, R.1.m.trans R.2.1.1.2.1, if_neg (nI_ge (by omega) (by omega)), d2]
      simp only [xb1, xl]
      rw [if_pos (ib_nI (by omega) (by omega)), nI_clamp (show p < 2 ^ 31 by omega), sH_in (h := 59) (c := 1) (by omega), c1, nI_1]
      by_cases q : A1 (4 * p) < 0
      · rw [if_pos q, if_pos q]
      · rw [if_neg q, if_neg q]
    · rw [← e2]
      conv => lhs; rw [s_Model_sure_35]
      unfold s_Model_sure_35_b s_Model_sure_72 s_Model_sure_111 s_Model_sure_113
      have a81 : τ.1 581 = τ0.1 581 := h.arr (by omega) (by omega) (by omega) (by omega)
      rw [if_pos (show ib 48 290 by decide), if_pos (show ib 1 2 by decide), if_pos (show ib 48 290 by decide), if_pos (show ib 0 2 by decide), a81, h.A (Or.inr rfl), show A (Int32.toNatClampNeg 48) = nI mm from R.2.1.1.2.1, show τ0.1 581 (Int32.toNatClampNeg 1) = nI E from hEm, show τ0.1 581 (Int32.toNatClampNeg 0) = nI F from hF, if_neg (nI_ge (by omega) (by omega)), if_neg (nI_nlt (hFm (by omega)) (by omega)), m1]
      simp only [xb1, xl]
      rw [if_neg (show ¬ (1 : Int32) = 0 by decide), c4, if_pos (ib_nI (by omega) (by omega)), nI_clamp (show 4 * p < 2 ^ 31 by omega), m2.A (Or.inr rfl)]
      by_cases q : A1 (4 * p) < 0
      · rw [if_pos q, if_neg (Int32.not_le.mpr q)]
      · rw [if_neg q, if_pos (Int32.not_lt.mp q), if_pos (ib_nI (by omega) (by omega))]
theorem a_sure {F : Nat} (hD : Idep I) (hL : LKok I P S L) (X : QX I σ τ S P n0 n E go L ln qn sn mm M) (hF1 : σ.1 4 14 = nI F) (hF2 : τ.1 581 0 = nI F) (hF3 : F < 100) (x : Int32) : QR I (s_Main_sure x σ) (s_Model_sure x τ) σ τ := by
  have X0 := X.z hD
  have hP8 := X.P8
  have hE := X.e100
  have hmE := X.mE
  have hM := X.M1
  have hh : gh 59 := by unfold gh; omega
  by_cases q1 : 0 ≤ x ∧ x < nI P
  · obtain ⟨p, hp, rfl⟩ := nI_ofx (by omega) q1.1 q1.2
    have eC : s_Main_sure (nI p) σ = xb2 (s_Guess_sureSeats (nI p) σ) (fun r6 σ7 => some (r6, σ7)) := by
      unfold s_Main_sure s_Main_sure_20
      rw [g_isSitter X.hP hP8, if_pos q1]
      simp only [xb2]
      rw [if_neg (show ¬ (1 : Int32) = 0 by decide)]
    have eM : s_Model_sure (nI p) τ = xb1 (s_Model_copy 583 584 (stI τ 570 0 0)) (fun σ8 => s_Model_sure_35 (nI p) FUEL ((1 <<< (nI S &&& 31)) - 1) σ8) := by
      unfold s_Model_sure
      simp only [xl]
      rw [m_isSitter, X0.mP, if_pos q1]
      simp only [xb2]
      rw [if_neg (show ¬ (1 : Int32) = 0 by decide), X0.mS]
    obtain ⟨w, A, b1, b2, R, we, hA⟩ := q_begin X0 hh
    have X1 := X0.F (A := A) hD
    have mt := Mt.rf (a := 584) X1.it
    rw [stF_s] at mt
    have f81 : (stF (stI τ 570 0 0) 584 A).1 581 0 = nI F := by rw [stF_n (by omega), stI_n (by omega)]; exact hF2
    have K1 := X1.1
    -- up to the film
    have ph : ∃ w1 A1 Z M1 v1 τ1, s_Evening_run 59 (nI F) (sH σ 59 w) = some (sH σ 59 w1) ∧ s_Model_sure_35 (nI p) FUEL ((1 <<< (nI S &&& 31)) - 1) (stF (stI τ 570 0 0) 584 A) = s_Model_sure_35 (nI p) (FUEL - (Z - mm)) ((1 <<< (nI S &&& 31)) - 1) τ1 ∧ HR σ S P n Z M1 w1 A1 ∧ M1 ≤ 1000 * Z ∧ Mt I (stF (stI τ 570 0 0) 584 A) 584 A1 v1 τ1 ∧ Z ≤ E ∧ (0 < E - Z → F ≤ Z) ∧ mm ≤ Z := by
      by_cases q : min F E ≤ mm
      · refine ⟨w, A, mm, M, _, _, e_run0 (by omega) X.cE hE (by omega) (R.1.m.trans R.2.1.1.2.1) (by omega) q, ?_, R, hM, mt, hmE, by omega, by omega⟩
        rw [Nat.sub_self, Nat.sub_zero]
      · obtain ⟨w', A', d, d1, r1, r2, r3⟩ := q_run (h := 59) (U := F) (Z := min F E) K1 X1.2.1 (by omega) X.cE hE R (by omega) rfl (by omega) (by omega) ((stF (stI τ 570 0 0) 584 A).1 570 41)
        obtain ⟨τ1, l1, l2⟩ := sure_m1 (p := p) (F := F) (E := E) (y := (1 <<< (nI S &&& 31)) - 1) hD.cl hL K1.2.1 (by omega) X1.tE f81 hE hF3 (min F E - mm) FUEL mm A A' _ _ _ (by omega) (by omega) (by unfold FUEL; omega) R.2.1.1 mt r2
        exact ⟨w', A', min F E, M + d, _, τ1, r1, l1, r3, by omega, l2, by omega, by omega, by omega⟩
    obtain ⟨w1, A1, Z, M1, v1, τ1, g1, g2, g3, g4, g5, g6, g7, g8⟩ := ph
    obtain ⟨y', w', A', v', τ', e1, e2, e3⟩ := sure_2 (F := F) (p := p) hD.cl hL K1 X.cE X1.tE hp f81 hE hF3 (E - Z) 0 FUEL (FUEL - (Z - mm)) Z M1 w1 A1 ((1 <<< (nI S &&& 31)) - 1) v1 τ1 (by omega) g7 (by omega) (by unfold FUEL; omega) (by unfold FUEL; omega) g3 g4 g5
    rw [nI_0] at e1
    refine ⟨y', sH σ 59 w', τ', ?_, ?_, FR.g hh, (FT.z.tr FT.a).tr e3.ft, X1.fin.mt e3 (sH_lo (by omega)), e3.2⟩
    · rw [eC]
      unfold s_Guess_sureSeats
      simp only [xl]
      rw [b1]
      simp only [xb1]
      rw [sH_lo (b := 4) (by omega), hF1, g1]
      simp only
      rw [X.hS, e1]
      rfl
    · rw [eM, b2]
      simp only [xb1]
      rw [g2, e2]
  · refine QR.no X hD (-1) ?_ ?_
    · unfold s_Main_sure s_Main_sure_20
      rw [g_isSitter X.hP hP8, if_neg q1]
      rfl
    · unfold s_Model_sure
      simp only [xl]
      rw [m_isSitter, X0.mP, if_neg q1]
      rfl
end
