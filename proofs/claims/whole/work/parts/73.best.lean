/-! best, when -/
theorem upd_id {f : Nat → Int32} {i : Nat} : upd f i (f i) = f := by
  funext j
  rw [upd_e]
  by_cases q : j = i
  · rw [if_pos q, q]
  · rw [if_neg q]
section
variable {I : LH → Prop} {σ τ σ' τ' : LH} {S P n0 ne ne' n E eN mm M : Nat} {go ex ex' : Nat → Nat} {who who' : Option Nat} {L : Nat → Nat → Nat → Int32} {ln : Nat → Nat → Nat → Nat} {qn sn : Nat → Nat}
theorem FT.now (h : FT scM τ τ') : τ'.1 583 = τ.1 583 := h.ar (fun j => by unfold scM; omega)
theorem FR.now (h : FR scC σ σ') {c : Nat} (hc : c < 9) : σ'.1 (39 + c) = σ.1 (39 + c) := h.ar (fun j => by unfold scC; omega)
theorem HR.put {p s : Nat} {w : Wd} {A : Nat → Int32} (R : HR σ S P n mm M w A) (hS8 : S ≤ 8) (hP8 : P ≤ 8) (hp : p < P) (hs : s < S) (h2 : A (4 * p) ≠ -2) (h5 : w 5 s = -1) (h6 : w 6 s = -1) : HR σ S P n mm M (wPut p (nI s) w) (upd A (4 * p) (nI s)) := by
  obtain ⟨hR, hW, hO, h8⟩ := R
  have till : A (4 * p + 1) = -1 := by
    rcases hW.2.1 p hp with y | y
    · exact absurd y.1 h2
    · exact y.2
  have b1 : upd A (4 * p) (nI s) (4 * p + 1) = -1 := by rw [pk_un (by omega)]; exact till
  have hy : plc S (nI s) := Or.inr (Or.inr ⟨s, hs, rfl⟩)
  obtain ⟨g, g1, g2⟩ := hW.1.2.2
  refine ⟨hR.put hS8 hP8 hp (hW.1.1 p hp) hy (fun t ht z => ?_) pk_us b1 (fun j _ q _ => pk_un q), hW.put hS8 hP8 hp hy (nI_m2 (by omega)) (fun t ht z => ?_) pk_us b1 (fun j _ q _ => pk_un q) ⟨g, g1, by rw [pk_un (by omega)]; exact g2⟩, hO.kst kst_put, kst_put.2.2.trans h8⟩
  · have := nI_ij (by omega) (by omega) z
    subst this
    exact h5
  · have := nI_ij (by omega) (by omega) z
    subst this
    rw [← hR.c6 s hs]
    exact h6
theorem m_joyOn {p : Nat} {y : Int32} {A : Nat → Int32} (hp : p < 8) (h1 : s_Model_copy 583 584 τ = some (stF τ 584 A)) (h2 : s_Model_toEnd 584 (stF τ 584 (upd A (4 * p) y)) = some τ') : s_Model_joyOn (nI p) y τ = some (τ'.1 584 (4 * p + 3), τ') := by
  unfold s_Model_joyOn
  rw [h1]
  simp only [xb1, xl]
  rw [c4, a3, if_pos (ib_nI (by omega) (by omega)), nI_clamp (show 4 * p < 2 ^ 31 by omega), stI_F, h2]
  simp only
  rw [if_pos (ib_nI (by omega) (by omega)), nI_clamp (show 4 * p + 3 < 2 ^ 31 by omega)]
theorem g_offer {x y : Int32} {b : Int32} (hb : b = 0 ∨ b = 1) : s_Guess_offer x y b σ = some (if b = 1 ∨ σ.1 58 6 < y then stI (stI σ 58 5 x) 58 6 y else σ) := by
  unfold s_Guess_offer s_Guess_offer_13
  simp only [xl]
  rcases hb with rfl | rfl
  · rw [if_pos rfl]
    by_cases q : σ.1 58 6 < y
    · rw [if_pos q, if_pos (Or.inr q)]
    · rw [if_neg q, if_neg (fun z => z.elim (fun z => absurd z (by decide)) q)]
  · rw [if_neg (by decide), if_pos (Or.inl rfl)]
theorem f58 {i : Nat} {v : Int32} : FR scC σ (stI σ 58 i v) := FR.I (by unfold scC; omega)
theorem QX.o {i : Nat} {v : Int32} (X : QX I σ τ S P n0 n E go L ln qn sn mm M) : QX I (stI σ 58 i v) τ S P n0 n E go L ln qn sn mm M := X.q f58 FT.rf (X.fin.s (stI_n (by omega))) X.it
theorem best_loop (hD : Idep I) (hL : LKok I P S L) {p : Nat} {z : Int32} (hp : p < P) : ∀ (r f f' k : Nat) (b mo : Int32) (σ τ : LH), k + r = S → r < f → r < f' → QX I σ τ S P n0 n E go L ln qn sn mm M → τ.1 583 (4 * p) ≠ -2 → σ.1 58 5 = b → σ.1 58 6 = mo → ∃ σ' τ' b' mo', s_Guess_findPlace_54 (nI p) f (nI k) σ = some σ' ∧ s_Model_best_58 (nI p) z f' b mo (nI k) τ = some (if z = 0 then b' else mo', τ') ∧ σ'.1 58 5 = b' ∧ σ'.1 58 6 = mo' ∧ FR scC σ σ' ∧ FT scM τ τ' ∧ QX I σ' τ' S P n0 n E go L ln qn sn mm M := by
  intro r
  induction r with
  | zero =>
    intro f f' k b mo σ τ hk hf hf' X h2 hb hmo
    obtain ⟨f, rfl⟩ : ∃ q, f = q + 1 := ⟨f - 1, by omega⟩
    obtain ⟨f', rfl⟩ : ∃ q, f' = q + 1 := ⟨f' - 1, by omega⟩
    have hS8 := X.S8
    refine ⟨σ, τ, b, mo, ?_, ?_, hb, hmo, FR.rf, FT.rf, X⟩
    · rw [s_Guess_findPlace_54]
      unfold s_Guess_findPlace_54_b
      rw [X.hS, if_pos (nI_le (by omega) (by omega))]
    · rw [s_Model_best_58]
      unfold s_Model_best_58_b s_Model_best_127
      rw [X.mS, if_pos (nI_le (by omega) (by omega))]
      by_cases q : z = 0
      · rw [if_pos q, if_pos q]
      · rw [if_neg q, if_neg q]
  | succ r ih =>
    intro f f' k b mo σ τ hk hf hf' X h2 hb hmo
    obtain ⟨f, rfl⟩ : ∃ q, f = q + 1 := ⟨f - 1, by omega⟩
    obtain ⟨f', rfl⟩ : ∃ q, f' = q + 1 := ⟨f' - 1, by omega⟩
    have hS8 := X.S8
    have hP8 := X.P8
    have hh : gh 59 := by unfold gh; omega
    have gF : s_Hall_isFree 39 (nI k) σ = some (if σ.1 44 k = -1 ∧ σ.1 45 k = -1 then 1 else 0, σ) := by
      have := h_isFree (σ := σ) (h := 39) (s := k) (w := gH σ 39) (by omega)
      rw [sH_gH] at this
      exact this
    have mF := m_isFree (τ := τ) (a := 583) (s := k) X.mP hP8 (by omega)
    have o5 : soR (τ.1 583) (nI k) P 0 = σ.1 44 k := (X.2.2.1.1.c5 k (by omega)).so
    have o6 : σ.1 45 k = τ.1 583 (32 + 2 * k) := X.2.2.1.1.c6 k (by omega)
    rw [o5, ← o6] at mF
    have uC : s_Guess_findPlace_54 (nI p) (f + 1) (nI k) σ = if σ.1 44 k = -1 ∧ σ.1 45 k = -1 then xb1 (s_Hall_beginAs 59 39 σ) (fun σ16 => xb1 (s_Hall_put 59 (nI p) (nI k) σ16) fun σ18 => xb1 (s_Evening_run 59 (σ18.1 4 15) σ18) fun σ20 => if ib (nI p) 8 then xb1 (s_Guess_offer (nI k) (σ20.1 63 (nI p).toNatClampNeg) 0 σ20) (fun σ23 => s_Guess_findPlace_54 (nI p) f (nI (k + 1)) σ23) else none) else s_Guess_findPlace_54 (nI p) f (nI (k + 1)) σ := by
      rw [s_Guess_findPlace_54]
      unfold s_Guess_findPlace_54_b s_Guess_findPlace_132
      rw [X.hS, if_neg (nI_ge (by omega) (by omega)), gF]
      simp only [xb2, ite10, xl, nI_1]
    have uM : s_Model_best_58 (nI p) z (f' + 1) b mo (nI k) τ = if σ.1 44 k = -1 ∧ σ.1 45 k = -1 then xb2 (s_Model_joyOn (nI p) (nI k) τ) (fun r28 σ29 => if mo < r28 then s_Model_best_58 (nI p) z f' (nI k) r28 (nI (k + 1)) σ29 else s_Model_best_58 (nI p) z f' b mo (nI (k + 1)) σ29) else s_Model_best_58 (nI p) z f' b mo (nI (k + 1)) τ := by
      rw [s_Model_best_58]
      unfold s_Model_best_58_b s_Model_best_92 s_Model_best_111
      rw [X.mS, if_neg (nI_ge (by omega) (by omega)), mF]
      simp only [xb2, ite10, xl, nI_1, if_neg (Int32.lt_irrefl (a := mo))]
    by_cases q : σ.1 44 k = -1 ∧ σ.1 45 k = -1
    · rw [if_pos q] at uC uM
      obtain ⟨w, A, b1, b2, R, we, hA⟩ := q_begin X hh
      have w5 : w 5 k = -1 := (we.1 5 (by omega) (by omega) k (by omega)).trans q.1
      have w6 : w 6 k = -1 := (we.1 6 (by omega) (by omega) k (by omega)).trans q.2
      have hA4 : A (4 * p) ≠ -2 := by rw [hA _ (by omega)]; exact h2
      obtain ⟨w', d, τ1, d1, r1, m1, R2, f1, -, X2⟩ := q_end hD hL X hh (R.put hS8 hP8 hp (by omega : k < S) hA4 w5 w6)
      have jm := m_joyOn (by omega) b2 m1
      have jj := R2.1.c4 p hp
      rw [b1] at uC
      simp only [xb1] at uC
      rw [h_put (by omega)] at uC
      simp only at uC
      rw [sH_lo (b := 4) (by omega), X.cE, r1] at uC
      simp only at uC
      rw [if_pos (ib_nI (by omega) (by omega)), nI_clamp (show p < 2 ^ 31 by omega), sH_in (h := 59) (c := 4) (by omega), g_offer (Or.inl rfl), sH_lo (b := 58) (by omega), hmo] at uC
      simp only at uC
      rw [jm] at uM
      simp only [xb2] at uM
      rw [← jj] at uM
      have h2' : τ1.1 583 (4 * p) ≠ -2 := by rw [f1.now]; exact h2
      by_cases q2 : mo < w' 4 p
      · rw [if_pos (Or.inr q2)] at uC
        rw [if_pos q2] at uM
        obtain ⟨σ3, τ3, b3, mo3, e1, e2, e3, e4, e5, e6, e7⟩ := ih f f' (k + 1) (nI k) (w' 4 p) (stI (stI (sH σ 59 w') 58 5 (nI k)) 58 6 (w' 4 p)) τ1 (by omega) (by omega) (by omega) X2.o.o h2' (by rw [stI_e, if_neg (by omega), stI_e, if_pos rfl]) (by rw [stI_e, if_pos rfl])
        exact ⟨σ3, τ3, b3, mo3, uC.trans e1, uM.trans e2, e3, e4, (((FR.g hh).tr f58).tr f58).tr e5, f1.tr e6, e7⟩
      · rw [if_neg (fun y => y.elim (fun y => absurd y (by decide)) q2)] at uC
        rw [if_neg q2] at uM
        obtain ⟨σ3, τ3, b3, mo3, e1, e2, e3, e4, e5, e6, e7⟩ := ih f f' (k + 1) b mo (sH σ 59 w') τ1 (by omega) (by omega) (by omega) X2 h2' (by rw [sH_lo (b := 58) (by omega)]; exact hb) (by rw [sH_lo (b := 58) (by omega)]; exact hmo)
        exact ⟨σ3, τ3, b3, mo3, uC.trans e1, uM.trans e2, e3, e4, (FR.g hh).tr e5, f1.tr e6, e7⟩
    · rw [if_neg q] at uC uM
      obtain ⟨σ3, τ3, b3, mo3, e1, e2, e3⟩ := ih f f' (k + 1) b mo σ τ (by omega) (by omega) (by omega) X h2 hb hmo
      exact ⟨σ3, τ3, b3, mo3, uC.trans e1, uM.trans e2, e3⟩
theorem a_best (hD : Idep I) (hL : LKok I P S L) (X : QX I σ τ S P n0 n E go L ln qn sn mm M) (x z : Int32) : QR I (s_Main_best x z σ) (s_Model_best x z τ) σ τ := by
  have X0 := X.z hD
  have hP8 := X.P8
  have hS8 := X.S8
  have hh : gh 59 := by unfold gh; omega
  by_cases q1 : 0 ≤ x ∧ x < nI P
  · obtain ⟨p, hp, rfl⟩ := nI_ofx (by omega) q1.1 q1.2
    have c1 : σ.1 40 p = τ.1 583 (4 * p) := X.2.2.1.1.c1 p hp
    have e83 : (stI τ 570 0 0).1 583 = τ.1 583 := stI_n (by omega)
    have mH : s_Model_isHere 583 (nI p) (stI τ 570 0 0) = some (if τ.1 583 (4 * p) = -2 then 0 else 1, stI τ 570 0 0) := by rw [m_isHere (by omega), e83]
    have eC : s_Main_best (nI p) z σ = if τ.1 583 (4 * p) = -2 then some (-1000000, σ) else if z = 0 ∨ z = 1 then xb1 (s_Guess_findPlace (nI p) σ) (fun σ10 => if z = 0 then some (σ10.1 58 5, σ10) else some (σ10.1 58 6, σ10)) else some (-1000000, σ) := by
      unfold s_Main_best s_Main_best_15 s_Main_best_47
      rw [g_isHere X.hP hP8 hp, c1]
      simp only [xb2, ite01, g_noC]
    have eM : s_Model_best (nI p) z τ = if τ.1 583 (4 * p) = -2 then some (-1000000, stI τ 570 0 0) else if z = 0 ∨ z = 1 then xb2 (s_Model_joyOn (nI p) (τ.1 583 (4 * p)) (stI τ 570 0 0)) (fun r17 σ18 => s_Model_best_58 (nI p) z FUEL (τ.1 583 (4 * p)) r17 0 σ18) else some (-1000000, stI τ 570 0 0) := by
      unfold s_Model_best s_Model_best_34
      simp only [xl]
      rw [m_isSitter, X0.mP, if_pos q1]
      simp only [xb2]
      rw [if_neg (show ¬ (1 : Int32) = 0 by decide), mH]
      simp only [ite01, m_choice, ite10]
      rw [c4, if_pos (ib_nI (by omega) (by omega)), nI_clamp (show 4 * p < 2 ^ 31 by omega), e83]
    by_cases q2 : τ.1 583 (4 * p) = -2
    · rw [if_pos q2] at eC eM
      exact QR.no X hD _ eC eM
    · by_cases q3 : z = 0 ∨ z = 1
      · rw [if_neg q2, if_pos q3] at eC eM
        obtain ⟨w, A, b1, b2, R, we, hA⟩ := q_begin X0 hh
        obtain ⟨w', d, τ1, d1, r1, m1, R2, f1, -, X2⟩ := q_end hD hL X0 hh R
        have hA4 : A (4 * p) = τ.1 583 (4 * p) := by rw [hA _ (by omega), e83]
        have hu : upd A (4 * p) (τ.1 583 (4 * p)) = A := by rw [← hA4]; exact upd_id
        have jm := m_joyOn (p := p) (y := τ.1 583 (4 * p)) (by omega) b2 (by rw [hu]; exact m1)
        have jj := R2.1.c4 p hp
        rw [jm] at eM
        simp only [xb2] at eM
        rw [← jj] at eM
        have f0 : FT scM τ τ1 := FT.z.tr f1
        obtain ⟨σ3, τ3, b3, mo3, e1, e2, e3, e4, e5, e6, e7⟩ := best_loop (z := z) hD hL hp S FUEL FUEL 0 (τ.1 583 (4 * p)) (w' 4 p) (stI (stI (sH σ 59 w') 58 5 (σ.1 40 p)) 58 6 (w' 4 p)) τ1 (by omega) (by unfold FUEL; omega) (by unfold FUEL; omega) X2.o.o (by rw [f0.now]; exact q2) (by rw [stI_e, if_neg (by omega), stI_e, if_pos rfl, c1]) (by rw [stI_e, if_pos rfl])
        rw [nI_0] at e1 e2
        refine ⟨_, σ3, τ3, ?_, eM.trans e2, (((FR.g hh).tr f58).tr f58).tr e5, f0.tr e6, e7.fin, e7.it⟩
        rw [eC]
        unfold s_Guess_findPlace
        rw [b1]
        simp only [xb1]
        rw [sH_lo (b := 4) (by omega), X.cE, r1]
        simp only
        rw [if_pos (ib_nI (by omega) (by omega)), nI_clamp (show p < 2 ^ 31 by omega), sH_in (h := 59) (c := 4) (by omega), sH_lo (b := 40) (by omega), g_offer (Or.inr rfl), if_pos (Or.inl rfl)]
        simp only [xb1]
        rw [e1]
        rw [if_pos (ib_nI (by omega) (by omega))]
        simp only
        rw [e3, e4]
        by_cases q : z = 0
        · rw [if_pos q, if_pos q]
        · rw [if_neg q, if_neg q]
      · rw [if_neg q2, if_neg q3] at eC eM
        exact QR.no X hD _ eC eM
  · refine QR.no X hD (-1000000) ?_ ?_
    · unfold s_Main_best s_Main_best_15
      rw [g_isHere0 X.hP hP8 q1]
      rfl
    · unfold s_Model_best s_Model_best_34
      simp only [xl]
      rw [m_isSitter, X0.mP, if_neg q1]
      rfl
end
