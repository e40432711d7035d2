/-! broken -/
section
variable {I : LH → Prop} {σ τ σ' τ' : LH} {S P n0 ne ne' n E eN mm M : Nat} {go ex ex' : Nat → Nat} {who who' : Option Nat} {L : Nat → Nat → Nat → Int32} {ln : Nat → Nat → Nat → Nat} {qn sn : Nat → Nat}
def brW (q : Nat) (w : Wd) : Wd := if w 1 q = -2 then w else wUp q 1 0 w
def brA (q : Nat) (A : Nat → Int32) : Nat → Int32 := if A (4 * q) = -2 then A else mUp q 1 0 A
theorem HR.up {p d : Nat} {b : Int32} {w : Wd} {A : Nat → Int32} (R : HR σ S P n mm M w A) (hS8 : S ≤ 8) (hP8 : P ≤ 8) (hm : mm < 101) (hp : p < P) (hd : d < 100) : HR σ S P n mm M (wUp p (nI d) b w) (mUp p (nI d) b A) := by
  obtain ⟨hR, hW, hO, h8⟩ := R
  obtain ⟨kk, hk9, hk⟩ := hW.2.2.1 p hp
  exact ⟨hR.up hS8 hP8 hp (hW.1.1 p hp) hk hk9, hW.up hR hS8 hP8 hm hp hd, hO.kst kst_up, (kst_up).2.2.trans h8⟩
theorem HR.br {p : Nat} {w : Wd} {A : Nat → Int32} (R : HR σ S P n mm M w A) (hS8 : S ≤ 8) (hP8 : P ≤ 8) (hm : mm < 101) (hp : p < P) : HR σ S P n mm M (brW p w) (brA p A) := by
  unfold brW brA
  rw [R.1.c1 p hp]
  by_cases q : A (4 * p) = -2
  · rw [if_pos q, if_pos q]; exact R
  · rw [if_neg q, if_neg q]; exact R.up (d := 1) hS8 hP8 hm hp (by omega)
theorem bk_c (hP : σ.1 4 1 = nI P) (hP8 : P ≤ 8) : ∀ (m f q : Nat) (w : Wd), q + m = P → m < f → ∃ f', s_Guess_breakUp_13 f (nI q) (sH σ 59 w) = s_Guess_breakUp_13 (f' + 1) (nI P) (sH σ 59 (itr brW m q w)) := by
  intro m
  induction m with
  | zero =>
    intro f q w hq hf
    obtain ⟨f, rfl⟩ : ∃ q, f = q + 1 := ⟨f - 1, by omega⟩
    exact ⟨f, by rw [show q = P by omega]; rfl⟩
  | succ m ih =>
    intro f q w hq hf
    obtain ⟨f, rfl⟩ : ∃ q, f = q + 1 := ⟨f - 1, by omega⟩
    obtain ⟨f', e⟩ := ih f (q + 1) (brW q w) (by omega) (by omega)
    refine ⟨f', ?_⟩
    rw [show itr brW (m + 1) q w = itr brW m (q + 1) (brW q w) from rfl, ← e]
    conv => lhs; rw [s_Guess_breakUp_13]
    unfold s_Guess_breakUp_13_b s_Guess_breakUp_48
    rw [sH_lo (b := 4) (by omega), hP, if_neg (nI_ge (by omega) (by omega)), if_pos (ib_nI (by omega) (by omega)), nI_clamp (show q < 2 ^ 31 by omega), sH_in (h := 59) (c := 1) (by omega)]
    simp only [xl, nI_1]
    by_cases y : w 1 q = -2
    · rw [if_pos y, show brW q w = w from if_pos y]
    · rw [if_neg y, show brW q w = wUp q 1 0 w from if_neg y, h_getUp (by omega)]
      rfl
theorem bk_m {p : Nat} (hP : τ.1 570 27 = nI P) (hP8 : P ≤ 8) : ∀ (m f q : Nat) (A : Nat → Int32), q + m = P → m < f → (∀ q, q < P → plc 8 (A (4 * q))) → ∃ f', s_Model_broken_38 (nI p) f (nI q) (stF τ 584 A) = s_Model_broken_38 (nI p) (f' + 1) (nI P) (stF τ 584 (itr brA m q A)) := by
  intro m
  induction m with
  | zero =>
    intro f q A hq hf _
    obtain ⟨f, rfl⟩ : ∃ q, f = q + 1 := ⟨f - 1, by omega⟩
    exact ⟨f, by rw [show q = P by omega]; rfl⟩
  | succ m ih =>
    intro f q A hq hf hx
    obtain ⟨f, rfl⟩ : ∃ q, f = q + 1 := ⟨f - 1, by omega⟩
    have hx2 : ∀ j, j < P → plc 8 (brA q A (4 * j)) := fun j hj => by
      unfold brA
      split
      · exact hx j hj
      · have hxq := hx q (by omega)
        unfold mUp
        split
        · rw [pk_un (by omega)]
          by_cases e : j = q
          · subst e; rw [pk_us]; exact Or.inr (Or.inl rfl)
          · rw [pk_un (by omega)]; exact hx j hj
        · rename_i h1 h2
          have hcl : (A (4 * q)).toNatClampNeg < 8 := by
            rcases hxq with z | z | ⟨s, hs, z⟩
            · exact absurd z (fun z => h2 (Or.inl (by rw [z]; decide)))
            · exact absurd z h1
            · rw [z, nI_clamp (by omega)]; exact hs
          rw [pk_un (by omega), pk_un (by omega), pk_un (by omega)]
          by_cases e : j = q
          · subst e; rw [pk_us]; exact Or.inr (Or.inl rfl)
          · rw [pk_un (by omega)]; exact hx j hj
    obtain ⟨f', e⟩ := ih f (q + 1) (brA q A) (by omega) (by omega) hx2
    refine ⟨f', ?_⟩
    rw [show itr brA (m + 1) q A = itr brA m (q + 1) (brA q A) from rfl, ← e]
    conv => lhs; rw [s_Model_broken_38]
    unfold s_Model_broken_38_b s_Model_broken_68
    rw [stF_n (by omega), hP, if_neg (nI_ge (by omega) (by omega)), m_isHere (by omega), stF_s]
    simp only [xl, nI_1, xb2, ite01]
    by_cases y : A (4 * q) = -2
    · rw [if_pos y, show brA q A = A from if_pos y]
    · rw [if_neg y, show brA q A = mUp q 1 0 A from if_neg y, m_goesUp (by omega) (hx q (by omega))]
      rfl
theorem a_broken (hD : Idep I) (hL : LKok I P S L) (X : QX I σ τ S P n0 n E go L ln qn sn mm M) (x : Int32) : QR I (s_Main_broken x σ) (s_Model_broken x τ) σ τ := by
  have X0 := X.z hD
  have hP8 := X.P8
  have hS8 := X.S8
  have hE := X.e100
  have hmE := X.mE
  have hM := X.M1
  have hh : gh 59 := by unfold gh; omega
  have le2 : (2 ≤ nI (E - mm)) ↔ 2 ≤ E - mm := by
    rw [show (2 : Int32) = nI 2 from rfl, nI_leI (by omega) (by omega)]
  have eC : s_Main_broken x σ = if 0 ≤ x ∧ x < nI P then if 2 ≤ E - mm then xb1 (s_Guess_breakUp σ) (fun σ10 => if ib x 8 then some (σ10.1 60 x.toNatClampNeg, σ10) else none) else some (-1000000, σ) else some (-1000000, σ) := by
    unfold s_Main_broken s_Main_broken_16
    rw [g_isSitter X.hP hP8]
    simp only [xb2, ite10, X.gL, le2]
  have eM : s_Model_broken x τ = if 0 ≤ x ∧ x < nI P then if 2 ≤ E - mm then xb1 (s_Model_copy 583 584 (stI τ 570 0 0)) (fun σ11 => s_Model_broken_38 x FUEL 0 σ11) else some (-1000000, stI τ 570 0 0) else some (-1000000, stI τ 570 0 0) := by
    unfold s_Model_broken s_Model_broken_21
    simp only [xl]
    rw [m_isSitter, X0.mP]
    simp only [xb2, ite10, X0.mL, le2]
  by_cases q1 : 0 ≤ x ∧ x < nI P
  · by_cases q2 : 2 ≤ E - mm
    · rw [if_pos q1, if_pos q2] at eC eM
      obtain ⟨p, hp, rfl⟩ := nI_ofx (by omega) q1.1 q1.2
      obtain ⟨w, A, b1, b2, R, we, hA⟩ := q_begin X0 hh
      have R1 : HR σ S P n mm M (itr brW P 0 w) (itr brA P 0 A) := q_itr (Q := HR σ S P n mm M) (f := brW) (g := brA) (n := P) (fun k w A hk R => R.br (p := k) hS8 hP8 (by omega) hk) P 0 w A (by omega) R
      obtain ⟨f', kc⟩ := bk_c (σ := σ) X.hP hP8 P FUEL 0 w (by omega) (by unfold FUEL; omega)
      obtain ⟨f2, km⟩ := bk_m (τ := stI τ 570 0 0) (p := p) X0.mP hP8 P FUEL 0 A (by omega) (by unfold FUEL; omega) (fun q hq => plc8 hS8 (R.2.1.1.1 q hq))
      generalize itr brW P 0 w = w1 at *
      generalize itr brA P 0 A = A1 at *
      have X1 := X0.F (A := A1) hD
      have mt := Mt.rf (a := 584) X1.it
      rw [stF_s] at mt
      obtain ⟨w', A', d, d1, r1, r2, r3⟩ := q_run (h := 59) (U := mm + 2) (Z := mm + 2) X1.1 X1.2.1 (by omega) X.cE hE R1 (by omega) (by omega) (by omega) (by omega) ((stF (stI τ 570 0 0) 584 A1).1 570 41)
      rw [show mm + 2 - mm = 1 + 1 by omega] at r2
      unfold mRun at r2
      cases e : mMin L (stF (stI τ 570 0 0) 584 A1) S P n0 0 go (fun _ => 0) 1000 mm A1 ((stF (stI τ 570 0 0) 584 A1).1 570 41) with
      | none => rw [e] at r2; cases r2
      | some a =>
        rw [e] at r2
        obtain ⟨⟨τ1, m1, m2⟩, hA1⟩ := m_goMinute hD.cl hL (Or.inr rfl) X1.1.2.1 (by omega : mm < 101) (by omega : 1000 < 10000) R1.2.1.1 mt e
        have r2' : (mMin L (stF (stI τ 570 0 0) 584 A1) S P n0 0 go (fun _ => 0) 1000 (mm + 1) a.1 a.2).bind (fun r => mRun L (stF (stI τ 570 0 0) 584 A1) S P n0 0 go (fun _ => 0) 1000 0 (mm + 1 + 1) r.1 r.2) = some (A', (stF (stI τ 570 0 0) 584 A1).1 570 41 + nI d) := r2
        unfold mMin at r2'
        cases e2 : muA (pickM (L (mm + 1)) (stF (stI τ 570 0 0) 584 A1) S P) 1000 (mHalf (L (mm + 1)) (stF (stI τ 570 0 0) 584 A1) S P n0 0 go (fun _ => 0) (a.1 48) a.1) a.2 with
        | none => rw [e2] at r2'; cases r2'
        | some b =>
          rw [e2] at r2'
          obtain ⟨τ2, m3, m4⟩ := m_halfMinute hD.cl hL (Or.inr rfl) X1.1.2.1 (by omega : mm + 1 < 101) (by omega : 1000 < 10000) hA1 m2 (A2 := b.1) (v2 := b.2) e2
          have eA' : A' = upd (itr (mJoy (L (mm + 1))) P 0 b.1) 48 (nI (mm + 1 + 1)) := by
            have := congrArg (fun o : Option ((Nat → Int32) × Int32) => (o.getD (A', 0)).1) r2'
            exact this.symm
          have c1 := r3.1.c1 p hp
          rw [eA', pk_un (by omega), joy_o P 0 b.1 (fun q _ => by omega)] at c1
          refine ⟨w' 1 p, sH σ 59 w', τ2, ?_, ?_, FR.g hh, (FT.z.tr FT.a).tr m4.ft, X1.fin.mt m4 (sH_lo (by omega)), m4.2⟩
          · rw [eC]
            unfold s_Guess_breakUp
            rw [b1]
            simp only [xb1]
            rw [nI_0] at kc
            rw [kc]
            conv => lhs; rw [s_Guess_breakUp_13]
            unfold s_Guess_breakUp_13_b
            rw [sH_lo (b := 4) (by omega), X.hP, if_pos (Int32.le_refl _), sH_lo (b := 39) (by omega), X.cm, show (2 : Int32) = nI 2 from rfl, nI_add, r1]
            simp only [xb1]
            rw [if_pos (ib_nI (by omega) (by omega)), nI_clamp (show p < 2 ^ 31 by omega), sH_in (h := 59) (c := 1) (by omega)]
          · rw [eM, b2]
            simp only [xb1]
            rw [nI_0] at km
            rw [km]
            conv => lhs; rw [s_Model_broken_38]
            unfold s_Model_broken_38_b
            rw [stF_n (by omega), X0.mP, if_pos (Int32.le_refl _), m1]
            simp only [xb1]
            rw [m3]
            simp only
            rw [c4, if_pos (ib_nI (by omega) (by omega)), nI_clamp (show 4 * p < 2 ^ 31 by omega), m4.A (Or.inr rfl), c1]
    · rw [if_pos q1, if_neg q2] at eC eM
      exact QR.no X hD _ eC eM
  · rw [if_neg q1] at eC eM
    exact QR.no X hD _ eC eM
end
