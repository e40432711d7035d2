/-! games of waiting: one outcome gone through, in both -/
def CTr (wh : Option Nat) (ls : Nat) (σ : LH) : Option LH := xb1 (s_Hall_beginAs 69 39 σ) (fun σ1 => match wh with
  | none => xb1 (s_Evening_run 69 (σ1.1 4 15) σ1) fun s => s_Evening_dropGoing s
  | some p => xb1 (s_Evening_addGoing (nI p) ((σ1.1 39 7) + nI ls) 1 σ1) fun s1 => xb1 (s_Evening_run 69 (s1.1 4 15) s1) fun s => s_Evening_dropGoing s)
def MTr (wh : Option Nat) (ls : Nat) (τ : LH) : Option LH := xb1 (s_Model_copy 583 584 τ) (fun τ1 => match wh with
  | none => xb1 (s_Model_toEnd 584 τ1) fun t => some (stI t 570 40 0)
  | some p => xb1 (s_Model_extra (nI p) ((τ1.1 583 48) + nI ls) 1 τ1) fun t1 => xb1 (s_Model_toEnd 584 t1) fun t => some (stI t 570 40 0))
theorem stI_sHo {σ : LH} {h b i : Nat} {w : Wd} {v : Int32} (hb : b < h) : stI (sH σ h w) b i v = sH (stI σ b i v) h w := by
  unfold stI stF
  rw [sH_lo hb]
  unfold sH
  refine Prod.ext (funext fun c => ?_) rfl
  show (if c = b then _ else if h ≤ c ∧ c < h + 9 then w (c - h) else σ.1 c) = if h ≤ c ∧ c < h + 9 then w (c - h) else if c = b then _ else σ.1 c
  by_cases q : c = b
  · rw [if_pos q, if_neg (by omega), if_pos q]
  · rw [if_neg q, if_neg q]
theorem sE_sH {σ : LH} {h : Nat} {w : Wd} {x y d : Int32} (hh : 38 < h) : sE (sH σ h w) x y d = sH (sE σ x y d) h w := by
  unfold sE
  rw [stI_sHo hh, stI_sHo hh, stI_sHo hh]
section
variable {I : LH → Prop} {σ τ σ' τ' : LH} {S P n0 n E mm M : Nat} {go : Nat → Nat} {L : Nat → Nat → Nat → Int32} {ln : Nat → Nat → Nat → Nat} {qn sn : Nat → Nat}
theorem pair_run {wh : Option Nat} {ls : Nat} (hD : Idep I) (hL : LKok I P S L) (X : QX I σ τ S P n0 n E go L ln qn sn mm M) (hw : ∀ p, wh = some p → p < P) (hls : ls ≤ 4) : ∃ σ2 τ2, CTr wh ls σ = some σ2 ∧ MTr wh ls τ = some τ2 ∧ (∀ p, p < P → σ2.1 73 p = τ2.1 584 (4 * p + 3)) ∧ FR scC σ σ2 ∧ FT scM τ τ2 ∧ QX I σ2 τ2 S P n0 n E go L ln qn sn mm M ∧ (∀ b, b ≠ 38 → (b < 69 ∨ 78 ≤ b) → σ2.1 b = σ.1 b) ∧ (∀ b, 590 ≤ b → τ2.1 b = τ.1 b) ∧ ∀ j, 42 ≤ j → τ2.1 570 j = τ.1 570 j := by
  have hM := X.M1
  have hmE := X.mE
  have hE := X.e100
  have hS8 := X.S8
  have hP8 := X.P8
  have hh : gh 69 := by unfold gh; omega
  obtain ⟨w, A, b1, b2, R, we, hA⟩ := q_begin X (h := 69) hh
  have X1 := X.F (A := A) hD
  cases wh with
  | none =>
    obtain ⟨w', A', d, τ', d1, r1, m1, m2, r3⟩ := q_toEnd (h := 69) (U := E) (w := w) hD.cl hL X1.1 X1.2.1 (by omega) X1.cE X1.tE hE X1.it (by rw [stF_s]; exact R) (by omega) (by omega) hmE (by omega)
    have eA := m2.A (Or.inr rfl)
    have fr : FR scC σ (stI (sH σ 69 w') 38 3 (-1)) := (FR.g hh).tr (FR.I (by unfold scC; omega))
    have ft : FT scM (stF τ 584 A) (stI τ' 570 40 0) := m2.ft.tr (FT.I (by unfold scM; omega))
    refine ⟨stI (sH σ 69 w') 38 3 (-1), stI τ' 570 40 0, ?_, ?_, fun p hp => ?_, fr, FT.a.tr ft, X1.q fr ft ⟨?_, ?_, ?_, ?_⟩ (hD.I m2.2 (by omega)), fun b h1 h2 => ?_, fun b h1 => ?_, fun j hj => ?_⟩
    · unfold CTr
      rw [b1, xb1_so]
      show xb1 (s_Evening_run 69 ((sH σ 69 w).1 4 15) (sH σ 69 w)) _ = _
      rw [sH_lo (b := 4) (by omega), X.cE, r1]
      rfl
    · unfold MTr
      rw [b2, xb1_so]
      show xb1 (s_Model_toEnd 584 (stF τ 584 A)) _ = _
      rw [m1]
      rfl
    · rw [stI_n (by omega), stI_n (by omega), eA]
      show (sH σ 69 w').1 (69 + 4) p = _
      rw [sH_in (by omega)]
      exact r3.1.c4 p hp
    · rw [stI_e, if_neg (by omega), sH_lo (by omega)]; exact X.fin.1
    · rw [stI_e, if_pos rfl]
    · rw [stI_570, if_neg (by omega), m2.fld (Or.inr rfl) (by omega) (by omega)]; exact X1.fin.2.2.1
    · rw [stI_570, if_pos rfl]
    · rw [stI_n h1]
      rcases h2 with h2 | h2
      · exact sH_lo h2
      · exact sH_hi (by omega)
    · rw [stI_n (by omega), m2.arr (by omega) (by omega) (by omega) (by omega), stF_n (by omega)]
    · rw [stI_570, if_neg (by omega), m2.fld (Or.inr rfl) (by omega) (by omega), stF_n (by omega)]
  | some p =>
    have hp := hw p rfl
    have me := m_extra (x := nI p) (y := nI (mm + ls)) (d := nI 1) X1.fin.2.2.2
    obtain ⟨e1, e2, e3, e4⟩ := sE_3 (σ := σ) (x := nI p) (y := nI (mm + ls)) (d := nI 1)
    obtain ⟨f1, f2, f3, f4⟩ := mE_4 (τ := stF τ 584 A) (x := nI p) (y := nI (mm + ls)) (d := nI 1)
    have f5 : (mE (stF τ 584 A) (nI p) (nI (mm + ls)) (nI 1)).1 584 = A := by rw [mE_n (by omega) (by omega), stF_s]
    have hI1 : I (mE (stF τ 584 A) (nI p) (nI (mm + ls)) (nI 1)) := hD _ _ X1.it (fun b hb => mE_n (by omega) (by omega)) (mE_f (by omega)) rfl
    have f81 : (mE (stF τ 584 A) (nI p) (nI (mm + ls)) (nI 1)).1 581 1 = nI E := by rw [mE_n (by omega) (by omega)]; exact X1.tE
    have f39 : (mE (stF τ 584 A) (nI p) (nI (mm + ls)) (nI 1)).1 570 39 = (stF τ 584 A).1 570 39 := mE_f (by omega)
    have fE : FT scM (stF τ 584 A) (mE (stF τ 584 A) (nI p) (nI (mm + ls)) (nI 1)) := FT.mE
    have fb : ∀ b, 590 ≤ b → (mE (stF τ 584 A) (nI p) (nI (mm + ls)) (nI 1)).1 b = τ.1 b := fun b hb => by rw [mE_n (by omega) (by omega), stF_n (by omega)]
    have fj : ∀ j, 42 ≤ j → (mE (stF τ 584 A) (nI p) (nI (mm + ls)) (nI 1)).1 570 j = τ.1 570 j := fun j hj => by rw [mE_f (by omega), stF_n (by omega)]
    obtain ⟨τb, hτb⟩ : ∃ t, t = mE (stF τ 584 A) (nI p) (nI (mm + ls)) (nI 1) := ⟨_, rfl⟩
    rw [← hτb] at me f1 f2 f3 f4 f5 hI1 f81 f39 fE fb fj
    have K2 : LK (sE σ (nI p) (nI (mm + ls)) (nI 1)) τb S P n0 1 n (E + 1) go (fun _ => p) (some p) L ln qn sn := X1.1.q FR.sE fE e1 f39 e2 (fun q hq => by cases hq; exact hp) f1 (by omega) (fun e he => by
      have : e = 0 := by omega
      subst this
      exact ⟨f2, hp⟩) (Or.inr ⟨p, 1, rfl, rfl, rfl, by rw [f3, e3], by rw [f4, e4], e4, by omega⟩)
    have R2 : HR (sE σ (nI p) (nI (mm + ls)) (nI 1)) S P n mm M w (τb.1 584) := by rw [f5]; exact R.s (fun b hb => sE_n (by omega))
    obtain ⟨w', A', dd, τc, d1, r1, m1, m2, r3⟩ := q_toEnd (h := 69) (U := E) (w := w) hD.cl hL K2 (X1.2.1.q FR.sE) (by omega) (by rw [sE_n (by omega)]; exact X1.cE) f81 hE hI1 R2 (by omega) (by omega) hmE (by omega)
    have eA := m2.A (Or.inr rfl)
    have fr : FR scC σ (stI (sH (sE σ (nI p) (nI (mm + ls)) (nI 1)) 69 w') 38 3 (-1)) := (FR.sE.tr (FR.g hh)).tr (FR.I (by unfold scC; omega))
    have ft : FT scM (stF τ 584 A) (stI τc 570 40 0) := (fE.tr m2.ft).tr (FT.I (by unfold scM; omega))
    refine ⟨stI (sH (sE σ (nI p) (nI (mm + ls)) (nI 1)) 69 w') 38 3 (-1), stI τc 570 40 0, ?_, ?_, fun q hq => ?_, fr, FT.a.tr ft, X1.q fr ft ⟨?_, ?_, ?_, ?_⟩ (hD.I m2.2 (by omega)), fun b h1 h2 => ?_, fun b h1 => ?_, fun j hj => ?_⟩
    · unfold CTr
      rw [b1, xb1_so]
      show xb1 (s_Evening_addGoing (nI p) ((sH σ 69 w).1 39 7 + nI ls) 1 (sH σ 69 w)) _ = _
      rw [sH_lo (b := 39) (by omega), X.cm, nI_add, show (1 : Int32) = nI 1 from rfl, g_addG, xb1_so, sE_sH (by omega), sH_lo (b := 4) (by omega), sE_n (b := 4) (by omega), X.cE, r1, xb1_so, g_dropG]
      rfl
    · unfold MTr
      rw [b2, xb1_so]
      show xb1 (s_Model_extra (nI p) ((stF τ 584 A).1 583 48 + nI ls) 1 (stF τ 584 A)) _ = _
      rw [stF_n (b := 583) (by omega), X.tm, nI_add, show (1 : Int32) = nI 1 from rfl, me, xb1_so, m1, xb1_so]
    · rw [stI_n (by omega), stI_n (by omega), eA]
      show (sH (sE σ (nI p) (nI (mm + ls)) (nI 1)) 69 w').1 (69 + 4) q = _
      rw [sH_in (by omega)]
      exact r3.1.c4 q hq
    · rw [stI_e, if_neg (by omega), sH_lo (by omega), e1]; exact X.fin.1
    · rw [stI_e, if_pos rfl]
    · rw [stI_570, if_neg (by omega), m2.fld (Or.inr rfl) (by omega) (by omega), f39]; exact X1.fin.2.2.1
    · rw [stI_570, if_pos rfl]
    · rw [stI_n h1]
      rcases h2 with h2 | h2
      · rw [sH_lo h2, sE_n h1]
      · rw [sH_hi (by omega), sE_n h1]
    · rw [stI_n (by omega), m2.arr (by omega) (by omega) (by omega) (by omega), fb b h1]
    · rw [stI_570, if_neg (by omega), m2.fld (Or.inr rfl) (by omega) (by omega), fj j hj]
/-- what an outcome is worth to one, from the states at the beginning -/
def Jv (τ0 : LH) (wh : Option Nat) (ls p : Nat) : Int32 := match MTr wh ls τ0 with
  | some t => t.1 584 (4 * p + 3)
  | none => 0
/-- the class at any later state finds it -/
theorem run_C {σ0 τ0 : LH} {wh : Option Nat} {ls : Nat} (hD : Idep I) (hL : LKok I P S L) (X : QX I σ0 τ0 S P n0 n E go L ln qn sn mm M) (hw : ∀ p, wh = some p → p < P) (hls : ls ≤ 4) (hf : FR scC σ0 σ) (h2 : σ.1 38 2 = 1023) (h3 : σ.1 38 3 = -1) : ∃ σ2, CTr wh ls σ = some σ2 ∧ (∀ p, p < P → σ2.1 73 p = Jv τ0 wh ls p) ∧ FR scC σ0 σ2 ∧ σ2.1 38 2 = 1023 ∧ σ2.1 38 3 = -1 ∧ (∀ b, b ≠ 38 → (b < 69 ∨ 78 ≤ b) → σ2.1 b = σ.1 b) := by
  have X1 : QX I σ τ0 S P n0 n E go L ln qn sn mm M := X.q hf FT.rf ⟨h2, h3, X.fin.2.2.1, X.fin.2.2.2⟩ X.it
  obtain ⟨σ2, τ2, a1, a2, a3, a4, a5, a6, a7, a8⟩ := pair_run (wh := wh) (ls := ls) hD hL X1 hw hls
  refine ⟨σ2, a1, fun p hp => ?_, hf.tr a4, a6.fin.1, a6.fin.2.1, a7⟩
  unfold Jv
  rw [a2]
  exact a3 p hp
theorem run_M {σ0 τ0 : LH} {wh : Option Nat} {ls : Nat} (hD : Idep I) (hL : LKok I P S L) (X : QX I σ0 τ0 S P n0 n E go L ln qn sn mm M) (hw : ∀ p, wh = some p → p < P) (hls : ls ≤ 4) (hf : FT scM τ0 τ) (h2 : τ.1 570 39 = -1) (h3 : τ.1 570 40 = 0) (hI : I τ) : ∃ τ2, MTr wh ls τ = some τ2 ∧ (∀ p, p < P → τ2.1 584 (4 * p + 3) = Jv τ0 wh ls p) ∧ FT scM τ0 τ2 ∧ τ2.1 570 39 = -1 ∧ τ2.1 570 40 = 0 ∧ I τ2 ∧ (∀ b, 590 ≤ b → τ2.1 b = τ.1 b) ∧ ∀ j, 42 ≤ j → τ2.1 570 j = τ.1 570 j := by
  have X1 : QX I σ0 τ S P n0 n E go L ln qn sn mm M := X.q FR.rf hf ⟨X.fin.1, X.fin.2.1, h2, h3⟩ hI
  obtain ⟨σ2, τ2, a1, a2, a3, a4, a5, a6, a7, a8, a9⟩ := pair_run (wh := wh) (ls := ls) hD hL X1 hw hls
  obtain ⟨σ3, τ3, b1, b2, b3, -⟩ := pair_run (wh := wh) (ls := ls) hD hL X hw hls
  refine ⟨τ2, a2, fun p hp => ?_, hf.tr a5, a6.fin.2.2.1, a6.fin.2.2.2, a6.it, a8, a9⟩
  unfold Jv
  rw [b2]
  have e : σ2 = σ3 := by rw [a1] at b1; injection b1
  show _ = τ3.1 584 (4 * p + 3)
  rw [← a3 p hp, e, b3 p hp]
end
