/-! moves now; chain -/
theorem st_move0 {σ τ : LH} {S P mm p s g M : Nat} {w : Wd} {A : Nat → Int32} (hS8 : S ≤ 8) (hP8 : P ≤ 8) (hm : mm < 101) (hp : p < P) (hs : s < S) (hg : A 49 = nI g) (hg1 : g ≤ 60) (hR : Rw S P w A) (hW : WI S P mm A) (hh : A (4 * p) ≠ -2) (h5 : w 5 s = -1) (h6 : w 6 s = -1) : Rw S P (wMove p (nI s) w M) (mMove p s g A) ∧ WI S P mm (mMove p s g A) := by
  have lo : ∀ j, j < 49 → mMove p s g A j = if j = 4 * p then nI s else A j := fun j hj => mMove_lo hj
  have b0 : mMove p s g A (4 * p) = nI s := by rw [lo _ (by omega), if_pos rfl]
  have e1 : A (4 * p + 1) = -1 := by
    rcases hW.2.1 p hp with z | z
    · exact absurd z.1 hh
    · exact z.2
  have b1 : mMove p s g A (4 * p + 1) = -1 := by rw [lo _ (by omega), if_neg (by omega)]; exact e1
  have bo : ∀ j, j < 49 → j ≠ 4 * p → j ≠ 4 * p + 1 → mMove p s g A j = A j := fun j q1 q2 _ => by rw [lo _ q1, if_neg q2]
  have b49 := mMove_49 (s := s) (g := g) (A := A) (p := p) (by omega)
  have hx := hW.1.1 p hp
  have hy : plc S (nI s) := Or.inr (Or.inr ⟨s, hs, rfl⟩)
  have hRl : Rw S P (wLog p (nI s) w M) A := by
    refine hR.cg hS8 hP8 (fun _ _ => rfl) (wLog_c (by omega) (by omega)) (wLog_c (by omega) (by omega)) (wLog_c (by omega) (by omega)) (wLog_c (by omega) (by omega)) (wLog_c (by omega) (by omega)) (wLog_c (by omega) (by omega)) (wLog_c (by omega) (by omega)) ?_
    unfold wLog
    rw [u2_i (by omega), u2_c (by omega), u2_c (by omega), u2_c (by omega), u2_c (by omega)]
  have h6' : A (32 + 2 * s) = -1 := by rw [← hR.c6 s hs]; exact h6
  refine ⟨?_, ?_⟩
  · unfold wMove
    refine hRl.put hS8 hP8 hp hx hy (fun t ht z => ?_) b0 b1 bo
    have := nI_ij (by omega) (by omega) z
    subst this
    rw [wLog_c (by omega) (by omega)]
    exact h5
  · refine hW.put hS8 hP8 hp hy (nI_m2 (by omega)) (fun t ht z => ?_) b0 b1 bo ⟨_, ?_, b49⟩
    · have := nI_ij (by omega) (by omega) z
      subst this
      exact h6'
    · split <;> omega
theorem st_moves0 {σ τ : LH} {S P r mm : Nat} {L : Nat → Nat → Int32} {ln : Nat → Nat → Nat} {sn : Nat → Nat} (hS8 : S ≤ 8) (hP8 : P ≤ 8) (hm : mm < 101) (hF : FX σ τ S P) (hL : ∀ p s, p < P → s < S → tbC σ r p s = L p s) (hl : LKr L ln S P) (hsn : ∀ p, p < P → sM τ p = nI (sn p) ∧ 1 ≤ sn p ∧ sn p < 1000) : ∀ (N : Nat) (w : Wd) (A : Nat → Int32) (M : Nat) (v : Int32), pot ln S P A < N → Rw S P w A → WI S P mm A → ∃ w1 A1 d, d < N ∧ muR (pickC σ S P r) N w M = some (w1, M + d) ∧ muA (pickM L τ S P) N A v = some (A1, v + nI d) ∧ Rw S P w1 A1 ∧ WI S P mm A1 ∧ (pickC σ S P r w1).2 = none ∧ (w 0 8 = nI M → w1 0 8 = nI (M + d)) ∧ (Lg w A M → Lg w1 A1 (M + d)) := by
  intro N
  induction N with
  | zero => intro w A M v h; omega
  | succ N ih =>
    intro w A M v hpt hR hW
    have hpe := pick_eq hS8 hF hL hR hW
    cases hpk : pickM L τ S P A with
    | mk s' t' =>
      have hpk2 : mvR (tkM L τ P A) (wM τ) (vw P A) S 0 none none = (s', t') := hpk
      obtain ⟨b1, b2⟩ := mvR_in S 0 none none (fun j hj => by cases hj) (fun _ => rfl) (fun _ => rfl) s' t' hpk2
      cases s' with
      | none =>
        have ht : t' = none := b2.mp rfl
        subst ht
        refine ⟨w, A, 0, by omega, ?_, ?_, hR, hW, ?_, fun h => h, fun h => h⟩
        · unfold muR
          rw [hpe, hpk]
          rfl
        · unfold muA
          rw [hpk]
          show some (A, v) = some (A, v + 0)
          rw [Int32.add_zero]
        · rw [hpe, hpk]
      | some s =>
        cases t' with
        | none => exact absurd (b2.mpr rfl) (by simp)
        | some t =>
          obtain ⟨hs, ht, htk⟩ := pickM_in hpk
          obtain ⟨f5, f6⟩ := mvR_free S 0 none none (fun j hj => by cases hj) _ _ hpk2 s rfl
          have htk2 : tkR L (qM τ) (sM τ) (xM2 τ) s (vw P A) P 0 none 0 = some t := htk
          obtain ⟨g1, g2⟩ := tkR_ok P 0 none 0 (fun j hj => by cases hj) t htk2
          have g1 : A (4 * t) ≠ -2 := g1
          have g2 : sM τ t ≤ L t s - lkx L t (A (4 * t)) := g2
          have w5 : w 5 s = -1 := by
            have : soR A (nI s) P 0 = -1 := f5
            rw [(hR.c5 s hs).so] at this
            exact this
          have w6 : w 6 s = -1 := by rw [hR.c6 s hs]; exact f6
          obtain ⟨g, hg1, hg2⟩ := hW.1.2.2
          have hcl : (A 49).toNatClampNeg = g := by rw [hg2]; exact nI_clamp (by omega)
          obtain ⟨k1, k2⟩ := st_move0 (σ := σ) (τ := τ) (M := M) hS8 hP8 hm ht hs hg2 hg1 hR hW g1 w5 w6
          have hx := hW.1.1 t ht
          obtain ⟨l1, l2⟩ := lkx_n hl hS8 ht hx
          obtain ⟨l3, l4⟩ := hl t s ht hs
          obtain ⟨n1, n2, n3⟩ := hsn t ht
          rw [n1, l3, l1] at g2
          have g3 := nI_subn l4 l2 n3 g2
          have lo : ∀ j, j < 49 → mMove t s g A j = if j = 4 * t then nI s else A j := fun j hj => mMove_lo hj
          have hnew : lkN ln t (nI s) = ln t s := by
            unfold lkN
            rw [if_neg (nI_pos (n := s) (by omega)), nI_clamp (show s < 2 ^ 31 by omega)]
          have hlt : pot ln S P (mMove t s g A) < pot ln S P A := by
            refine smN_lt (p := t) ?_ P 0 (by omega) (by omega) (fun j q1 q2 => by
              show btr ln S j (mMove t s g A (4 * j)) = btr ln S j (A (4 * j))
              rw [lo _ (by omega), if_neg (by omega)])
            show btr ln S t (mMove t s g A (4 * t)) < btr ln S t (A (4 * t))
            rw [lo _ (by omega), if_pos rfl]
            unfold btr
            rw [hnew]
            refine cnB_lt (p := s) (fun j hj => ?_) (decide_eq_true (by omega)) (decide_eq_false (by omega)) S 0 (by omega) (by omega)
            have := of_decide_eq_true hj
            exact decide_eq_true (by omega)
          obtain ⟨w1, A1, d, d1, d2, d3, d4, d5, d8, d9, d10⟩ := ih (wMove t (nI s) w M) (mMove t s g A) (M + 1) (v + 1) (by omega) k1 k2
          refine ⟨w1, A1, d + 1, by omega, ?_, ?_, d4, d5, d8, fun _ => ?_, fun hlg => ?_⟩
          · unfold muR
            rw [hpe, hpk]
            show muR (pickC σ S P r) N (wMove t (nI s) w M) (M + 1) = _
            rw [d2, show M + 1 + d = M + (d + 1) by omega]
          · unfold muA
            rw [hpk]
            show muA (pickM L τ S P) N (mMove t s (A 49).toNatClampNeg A) (v + 1) = _
            rw [hcl, d3, Int32.add_assoc, show (1 : Int32) + nI d = nI (d + 1) by rw [← nI_1, Int32.add_comm]]
          · have := d9 wMove_m
            rw [this, show M + 1 + d = M + (d + 1) by omega]
          · have h2 := hlg.move (s := s) hR hP8 ht
            rw [hcl] at h2
            have := d10 h2
            rw [show M + 1 + d = M + (d + 1) by omega] at this
            exact this
theorem h_sitterOn {σ : LH} {h s : Nat} (hs : s < 8) : s_Hall_sitterOn h (nI s) σ = some (σ.1 (h + 5) s, σ) := by
  unfold s_Hall_sitterOn s_Hall_sitterOn_17
  rw [h_isSeat, if_pos (nI_seat hs)]
  simp only [xb2]
  rw [if_neg (show ¬ (1 : Int32) = 0 by decide), if_pos (ib_nI hs (by omega)), nI_clamp (show s < 2 ^ 31 by omega)]
section
variable {I : LH → Prop} {σ τ σ' τ' : LH} {S P n0 ne ne' n E eN mm M : Nat} {go ex ex' : Nat → Nat} {who who' : Option Nat} {L : Nat → Nat → Nat → Int32} {ln : Nat → Nat → Nat → Nat} {qn sn : Nat → Nat}
theorem a_chain (hD : Idep I) (hL : LKok I P S L) (X : QX I σ τ S P n0 n E go L ln qn sn mm M) (x z : Int32) : QR I (s_Main_chain x z σ) (s_Model_chain x z τ) σ τ := by
  have X0 := X.z hD
  have hP8 := X.P8
  have hS8 := X.S8
  have hE := X.e100
  have hmE := X.mE
  have hM := X.M1
  have hh : gh 59 := by unfold gh; omega
  by_cases q1 : 0 ≤ x ∧ x < nI P
  · obtain ⟨p, hp, rfl⟩ := nI_ofx (by omega) q1.1 q1.2
    have c1 : σ.1 40 p = τ.1 583 (4 * p) := X.2.2.1.1.c1 p hp
    have e83 : (stI τ 570 0 0).1 583 = τ.1 583 := stI_n (by omega)
    have mS : s_Model_isSitter (nI p) (stI τ 570 0 0) = some (1, stI τ 570 0 0) := by rw [m_isSitter, X0.mP, if_pos q1]
    have mO := m_isOpen (τ := stI τ 570 0 0) (mm := mm) (c := E - mm) X0.mP hP8 (by omega) (by rw [show mm + (E - mm) = E by omega]; exact X0.tE) X0.tm (by omega)
    have lt1 : (nI (E - mm) < 1) ↔ E - mm = 0 := by
      rw [show (1 : Int32) = nI 1 from rfl, nI_ltI (by omega) (by omega)]
      omega
    have eC : s_Main_chain (nI p) z σ = if τ.1 583 (4 * p) = -2 then some (-1000000, σ) else if τ.1 583 (4 * p) = -1 then some (-1000000, σ) else if E - mm = 0 then some (-1000000, σ) else if z = 0 ∨ z = 1 then xb1 (s_Guess_leave (nI p) σ) (fun σ16 => if z = 0 then some (σ16.1 58 5, σ16) else some (σ16.1 58 6, σ16)) else some (-1000000, σ) := by
      unfold s_Main_chain s_Main_chain_36 s_Main_chain_68
      rw [g_isHere X.hP hP8 hp, c1]
      simp only [xb2, ite01]
      rw [if_pos (ib_nI (by omega) (by omega)), nI_clamp (show p < 2 ^ 31 by omega), c1, X.gL]
      simp only [lt1, g_noC, ite01]
    have eM : s_Model_chain (nI p) z τ = if τ.1 583 (4 * p) < 0 then some (-1000000, stI τ 570 0 0) else if E - mm = 0 then some (-1000000, stI τ 570 0 0) else if z = 0 ∨ z = 1 then xb1 (s_Model_copy 583 584 (stI τ 570 0 0)) (fun σ17 => xb1 (s_Model_goesUp 584 (nI p) 1 1 σ17) fun σ19 => xb1 (s_Model_movesUp 584 (stI σ19 570 41 0)) fun σ22 => if z = 0 then some (σ22.1 570 41, σ22) else if ib (nI (4 * p)) 290 then xb2 (s_Model_sitsOn 584 (σ22.1 583 (4 * p)) σ22) (fun r26 σ27 => some (r26, σ27)) else none) else some (-1000000, stI τ 570 0 0) := by
      unfold s_Model_chain s_Model_chain_41 s_Model_chain_107
      simp only [xl]
      rw [mS]
      simp only [xb2]
      rw [if_neg (show ¬ (1 : Int32) = 0 by decide), c4, if_pos (ib_nI (by omega) (by omega)), nI_clamp (show 4 * p < 2 ^ 31 by omega), e83, mO]
      simp only [ite01, m_choice, ite10]
    rcases X.2.2.1.2.1.1.1 p hp with y | y | ⟨s, hs, y⟩
    · rw [if_neg (by rw [y]; decide), if_pos y] at eC
      rw [if_pos (by rw [y]; decide)] at eM
      exact QR.no X hD _ eC eM
    · rw [if_pos y] at eC
      rw [if_pos (by rw [y]; decide)] at eM
      exact QR.no X hD _ eC eM
    · rw [y, if_neg (nI_m2 (by omega)), if_neg (nI_m1 (by omega))] at eC
      rw [y, if_neg (nI_pos (by omega))] at eM
      by_cases q2 : E - mm = 0
      · rw [if_pos q2] at eC eM
        exact QR.no X hD _ eC eM
      · by_cases q3 : z = 0 ∨ z = 1
        · rw [if_neg q2, if_pos q3] at eC eM
          obtain ⟨w, A, b1, b2, R, we, hA⟩ := q_begin X0 hh
          obtain ⟨kk, hk9, hk⟩ := R.2.1.2.2.1 p hp
          have hx := R.2.1.1.1 p hp
          have R1 : Rw S P (wUp p 1 1 w) (mUp p 1 1 A) := R.1.up hS8 hP8 hp hx hk hk9
          have W1 : WI S P mm (mUp p 1 1 A) := R.2.1.up (d := 1) R.1 hS8 hP8 (by omega) hp (by omega)
          have n10 : wUp p 1 1 w 0 10 = -1 := by
            unfold wUp
            split
            · rw [u2_c (by omega)]
              unfold wPut
              rw [u2_s]
            · rw [u2_c (by omega), u2_c (by omega), u2_c (by omega)]
              unfold wPut
              rw [u2_s]
          have n8 : wUp p 1 1 w 0 8 = nI M := kst_up.2.2.trans R.2.2.2
          have n7 : wUp p 1 1 w 0 7 = nI mm := R1.m.trans W1.1.2.1
          have gU : s_Hall_getUp 59 (nI p) 1 1 (sH σ 59 w) = some (sH σ 59 (wUp p 1 1 w)) := h_getUp (by omega)
          have mU : s_Model_goesUp 584 (nI p) 1 1 (stF (stI τ 570 0 0) 584 A) = some (stF (stI τ 570 0 0) 584 (mUp p 1 1 A)) := m_goesUp (by omega) (plc8 hS8 hx)
          generalize wUp p 1 1 w = w1 at *
          generalize mUp p 1 1 A = A1 at *
          obtain ⟨C, G, F, hGL, hEL, hq, hs2, hT, hl, hn⟩ := X0.1
          obtain ⟨r, r1, r2, r3⟩ := hT mm (by omega)
          have pl := pot_le (ln := ln mm) (A := A1) hS8 hP8
          obtain ⟨w3, A3, d, d1, d2, d3, d4, d5, d8, d9, -⟩ := st_moves0 hS8 hP8 (by omega : mm < 101) F r3 (hl mm (by omega)) hs2 1000 w1 A1 M 0 (by omega) R1 W1
          have w38 := d9 n8
          have mu : s_Evening_moveUp 59 (nI r) (sH σ 59 w1) = some (u2 w3 0 10 (nI (n * 128 + r)) 0 8 - w1 0 8, sH σ 59 (u2 w3 0 10 (nI (n * 128 + r)))) := e_moveUp (M := M) (by omega) X.hS hS8 X.hP hP8 r1 C.2.2.2.2.2.2.2.2.2 (fun q hq => by rw [R1.c1 q hq]; exact plc8 hS8 (W1.1.1 q hq)) n8 (by omega) (Or.inr ⟨by rw [n10]; exact fun z => nI_m1 (by omega) z.symm, w3, M + d, by rw [n8, nI_clamp (by omega)]; exact d2, rfl⟩)
          rw [u2_i (by omega), w38, n8, nI_sb] at mu
          have mt0 : Mt I (stI τ 570 0 0) 584 A1 0 (stI (stF (stI τ 570 0 0) 584 A1) 570 41 0) := ((Mt.rf (a := 584) X0.it).to hD.cl (Or.inr rfl)).mv1 hD.cl
          obtain ⟨τ3, v1, v2⟩ := m_movesUp hD.cl hL (Or.inr rfl) G.1 G.2.2.1 hP8 hS8 G.2.2.2.2.2.2.2.2.2.2 (by omega : mm < 101) d3 (by omega) W1.1 mt0
          have zz : (0 : Int32) + nI d = nI d := by rw [Int32.zero_add]
          rw [zz] at v2
          have a84 := v2.A (Or.inr rfl)
          have a83 : τ3.1 583 = τ.1 583 := (v2.arr (by omega) (by omega) (by omega) (by omega)).trans e83
          have a27 : τ3.1 570 27 = nI P := (v2.fld (Or.inr rfl) (by omega) (by omega)).trans X0.mP
          have so := m_sitsOn (τ := τ3) (a := 584) (x := nI s) a27 hP8
          rw [a84, (d4.c5 s hs).so] at so
          refine ⟨if z = 0 then nI d else w3 5 s, stI (stI (sH σ 59 (u2 w3 0 10 (nI (n * 128 + r)))) 58 5 (nI d)) 58 6 (w3 5 s), τ3, ?_, ?_, ((FR.g hh).tr f58).tr f58, FT.z.tr v2.ft, (X0.fin.mt v2 (by rw [stI_n (by omega), stI_n (by omega), sH_lo (by omega)])), v2.2⟩
          · rw [eC]
            unfold s_Guess_leave
            rw [b1]
            simp only [xb1, xl]
            rw [if_pos (ib_nI (by omega) (by omega)), nI_clamp (show p < 2 ^ 31 by omega), sH_lo (b := 40) (by omega), c1, y, gU]
            simp only
            rw [sH_in0, n7, l_row (by omega), sH_lo (b := 35) (by omega), r2]
            simp only [xb2]
            rw [mu]
            simp only
            rw [h_sitterOn (by omega), stI_n (by omega), sH_in (h := 59) (c := 5) (by omega), u2_c (by omega)]
            simp only
            by_cases q : z = 0
            · rw [if_pos q, if_pos q, stI_e, if_neg (by omega), stI_e, if_pos rfl]
            · rw [if_neg q, if_neg q, stI_e, if_pos rfl]
          · rw [eM, b2]
            simp only [xb1]
            rw [mU]
            simp only
            rw [v1]
            simp only
            rw [v2.mv, a83, y, if_pos (ib_nI (by omega) (by omega)), so]
            simp only [xb2]
            by_cases q : z = 0
            · rw [if_pos q, if_pos q]
            · rw [if_neg q, if_neg q]
        · rw [if_neg q2, if_neg q3] at eC eM
          exact QR.no X hD _ eC eM
  · refine QR.no X hD (-1000000) ?_ ?_
    · unfold s_Main_chain s_Main_chain_36
      rw [g_isHere0 X.hP hP8 q1]
      rfl
    · unfold s_Model_chain s_Model_chain_41
      simp only [xl]
      rw [m_isSitter, X0.mP, if_neg q1]
      rfl
end
