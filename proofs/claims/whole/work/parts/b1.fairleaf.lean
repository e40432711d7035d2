/-! fair: an order at its end, in both -/
def FBo (V : Prop) (σ τ : LH) : Prop := τ.1 570 53 = σ.1 81 7 ∧ (V ∨ σ.1 81 7 = -1) ∧ (V → τ.1 570 54 = σ.1 81 6)
section
variable {I : LH → Prop} {σ τ σ' τ' σ0 τ0 : LH} {S P n0 n E mm M d k : Nat} {go ord ord' : Nat → Nat} {L : Nat → Nat → Nat → Int32} {ln : Nat → Nat → Nat → Nat} {qn sn : Nat → Nat}
theorem PIx.we {w w' : Wd} (h : PIx L σ0 τ0 S P n n0 mm M d go ord k w) (e : WE w w') (hS8 : S ≤ 8) (hP8 : P ≤ 8) : PIx L σ0 τ0 S P n n0 mm M d go ord k w' := by
  intro τ' ne h1 h2 h3 h4 A v hH
  obtain ⟨A', dd, d1, d2, d3⟩ := h τ' ne h1 h2 h3 h4 A v hH
  exact ⟨A', dd, d1, d2, d3.cp e hS8 hP8 (fun _ _ => rfl)⟩
theorem PIx.w7 {w : Wd} (h : PIx L σ0 τ0 S P n n0 mm M d go ord k w) (hk : k ≤ 8) (X0 : QX I σ0 τ0 S P n0 n E go L ln qn sn mm M) : w 0 7 = nI (mm + k) := by
  obtain ⟨τ2, r1, r2⟩ := exs_any (τ0 := τ0) ord k mm d
  obtain ⟨A', dd, d1, d2, d3⟩ := h τ2 k (Nat.le_refl k) hk r1 r2 (τ0.1 583) 0 X0.2.2.1
  exact d3.1.m.trans d3.2.1.1.2.1
theorem f_run (hD : Idep I) (hL : LKok I P S L) (X0 : QX I σ0 τ0 S P n0 n E go L ln qn sn mm M) (X : QX I σ τ S P n0 n E go L ln qn sn mm M) (fσ : FR scC σ0 σ) (fτ : FT scM τ0 τ) (hP0 : 0 < P) (hP5 : P ≤ 5) (hPE : mm + P ≤ E) (hP : PIx L σ0 τ0 S P n n0 mm M d go ord P (gH σ (96 + 9 * P))) (ho : ∀ j, j < P → τ.1 594 j = nI (ord j)) (hop : ∀ j, j < P → ord j < P) {rf : Int32 → Int32 → Int32 → LH → Option LH} {u : Int32} : ∃ w' τd gap, s_Evening_run (96 + 9 * P) (nI E) σ = some (sH σ (96 + 9 * P) w') ∧ s_Hall_gap (96 + 9 * P) (nI P) (sH σ (96 + 9 * P) w') = some (gap, sH σ (96 + 9 * P) w') ∧ s_Model_goFair_b rf (nI d) (nI P) u τ = (if τd.1 570 53 = -1 then s_Model_goFair_100 rf (nI d) (nI P) u gap τd else if gap < τd.1 570 53 then s_Model_goFair_100 rf (nI d) (nI P) u gap τd else some τd) ∧ QX I (sH σ (96 + 9 * P) w') τd S P n0 n E go L ln qn sn mm M ∧ FT scM τ τd ∧ (∀ j, τd.1 594 j = τ.1 594 j) ∧ τd.1 570 53 = τ.1 570 53 ∧ τd.1 570 54 = τ.1 570 54 := by
  have hS8 := X.S8
  have hP8 := X.P8
  have hE := X.e100
  have hM := X.M1
  have hmE := X.mE
  have hh : gh (96 + 9 * P) := by unfold gh; omega
  obtain ⟨g, g1, g2⟩ := X.2.2.1.2.1.1.2.2
  have b2 : s_Model_copy 583 584 τ = some (stF τ 584 (cpy (50 + 4 * g) (τ.1 583) (τ.1 584))) := m_copy (by omega) g2 g1
  have hA : ∀ j, j < 50 → cpy (50 + 4 * g) (τ.1 583) (τ.1 584) j = τ.1 583 j := fun j hj => if_pos (by omega)
  generalize cpy (50 + 4 * g) (τ.1 583) (τ.1 584) = A at b2 hA
  have X1 := X.F (A := A) hD
  have f1 : FT scM τ (stF τ 584 A) := FT.a
  have n583 : (stF τ 584 A).1 583 = τ.1 583 := stF_n (by omega)
  have n594 : (stF τ 584 A).1 594 = τ.1 594 := stF_n (by omega)
  have n570 : (stF τ 584 A).1 570 = τ.1 570 := stF_n (by omega)
  have n584 : (stF τ 584 A).1 584 = A := stF_s
  generalize hτ1 : stF τ 584 A = τ1 at *
  have ex := eX_run (τ := τ1) (ord := ord) (mm := mm) (d := d) (P := P) (rf := rf) (p1 := nI P) (p2 := u) X1.fin.2.2.2 X1.mP X1.tm (fun j hj => by rw [n594]; exact ho j hj) hP8 P FUEL 0 (by omega) (by unfold FUEL; omega)
  obtain ⟨f', ex⟩ := ex
  rw [show eX ord mm d τ1 0 = τ1 from rfl, nI_0] at ex
  have x27 : (eX ord mm d τ1 P).1 570 27 = nI P := (eX_f (by omega) P).trans X1.mP
  have x39 : (eX ord mm d τ1 P).1 570 39 = τ1.1 570 39 := eX_f (by omega) P
  have x53 : (eX ord mm d τ1 P).1 570 53 = τ1.1 570 53 := eX_f (by omega) P
  have x54 : (eX ord mm d τ1 P).1 570 54 = τ1.1 570 54 := eX_f (by omega) P
  have x40 : (eX ord mm d τ1 P).1 570 40 = nI P := eX_40 X1.fin.2.2.2 P
  have xx : EXs (eX ord mm d τ1 P) ord P mm d := fun e he => eX_x P e he
  have xf : FT scM τ1 (eX ord mm d τ1 P) := FT.eX P
  have x26 : (eX ord mm d τ1 P).1 570 26 = nI S := (eX_f (by omega) P).trans X1.mS
  have x28 : (eX ord mm d τ1 P).1 570 28 = τ1.1 570 28 := eX_f (by omega) P
  have x75 : (eX ord mm d τ1 P).1 575 = τ1.1 575 := eX_n (by omega) (by omega) P
  have x77 : (eX ord mm d τ1 P).1 577 = τ1.1 577 := eX_n (by omega) (by omega) P
  have x79 : (eX ord mm d τ1 P).1 579 = τ1.1 579 := eX_n (by omega) (by omega) P
  have x81 : (eX ord mm d τ1 P).1 581 = τ1.1 581 := eX_n (by omega) (by omega) P
  have x84 : (eX ord mm d τ1 P).1 584 = A := (eX_n (by omega) (by omega) P).trans n584
  have x94 : (eX ord mm d τ1 P).1 594 = τ1.1 594 := eX_n (by omega) (by omega) P
  have xI : I (eX ord mm d τ1 P) := hD _ _ X1.it (fun b hb => eX_n (by omega) (by omega) P) (eX_f (by omega) P) (by rw [eX_2])
  generalize eX ord mm d τ1 P = τx at *
  have G : MGo τx S P n0 P go ord := by
    obtain ⟨a1, a2, a3, a4, a5, a6, a7, a8, a9, a10, a11, a12⟩ := X1.1.2.1
    refine ⟨x26, a2, x27, a4, by rw [x28]; exact a5, a6, by rw [x79]; exact a7, x40, hP8, fun e he => ⟨(xx e he).2.2, hop e he⟩, ?_, ?_⟩
    · show sml (fun p => τx.1 577 (4 * p + 1)) P
      rw [x77]; exact a11
    · show sml (fun s => τx.1 575 (3 * s + 2)) S
      rw [x75]; exact a12
  -- from where it is now
  have R0 : HR σ0 S P n mm M (gH σ0 39) A := ((X.2.2.1.s (fun b hb => (fσ.lo b hb).symm)).cp (w' := gH σ0 39) (by
    have e : ∀ c, c < 9 → gH σ0 39 c = gH σ 39 c := fun c hc => (fσ.ar (b := 39 + c) (fun j => by unfold scC; omega)).symm
    exact ⟨fun c _ _ j _ => by rw [e c (by omega)], by rw [e 0 (by omega)], by rw [e 0 (by omega)], by rw [e 0 (by omega)]⟩) hS8 hP8 hA)
  have rm : RMo τ0 τx := ⟨x75.trans ((by rw [← hτ1, stF_n (by omega)] : τ1.1 575 = τ.1 575).trans (fτ.ar (fun j => by unfold scM; omega))), x77.trans ((by rw [← hτ1, stF_n (by omega)] : τ1.1 577 = τ.1 577).trans (fτ.ar (fun j => by unfold scM; omega))), x79.trans ((by rw [← hτ1, stF_n (by omega)] : τ1.1 579 = τ.1 579).trans (fτ.ar (fun j => by unfold scM; omega))), x39.trans (X1.fin.2.2.1.trans X0.fin.2.2.1.symm)⟩
  obtain ⟨A1, dd, d1, d2, d3⟩ := hP τx P (Nat.le_refl P) hP8 rm xx A 0 R0
  have R1 : HR σ S P n (mm + P) (M + dd) (gH σ (96 + 9 * P)) A1 := d3.s fσ.lo
  obtain ⟨w', A2, e2, q1, q2, q3, q4⟩ := q_run (h := 96 + 9 * P) (U := E) (Z := E) X.1 X.2.1 (by omega) X.cE hE R1 (by omega) (by omega) (by omega) (by omega) (0 + nI dd)
  rw [sH_gH] at q2
  have rm2 : RMo τ τx := ⟨x75.trans (by rw [← hτ1, stF_n (by omega)]), x77.trans (by rw [← hτ1, stF_n (by omega)]), x79.trans (by rw [← hτ1, stF_n (by omega)]), x39.trans (by rw [← hτ1, stF_n (by omega)])⟩
  have q3' := mRun_cg rm2 xx (E - (mm + P)) (mm + P) A1 A2 (0 + nI dd) (0 + nI dd + nI e2) (Nat.le_refl _) (by omega) d3.2.1.1.2.1 q3 (fun t B B' v v' _ hm => mMin_48 hm)
  have run : mRun L τx S P n0 P go ord 1000 (E - mm) mm A 0 = some (A2, 0 + nI dd + nI e2) := by
    rw [show E - mm = P + (E - (mm + P)) by omega, mRun_app, d2]
    exact q3'
  have mt := Mt.rf (a := 584) xI
  rw [x84] at mt
  obtain ⟨⟨τc, m1, m2⟩, -⟩ := m_toEnd hD.cl hL (Or.inr rfl) G (show 1000 < 10000 by omega) (by rw [x81]; exact X1.tE) (by omega) hmE R0.2.1.1 mt run
  have e27 : (stI τc 570 40 0).1 570 27 = nI P := by rw [stI_570, if_neg (by omega), m2.fld (Or.inr rfl) (by omega) (by omega)]; exact x27
  have e84 : (stI τc 570 40 0).1 584 = A2 := by rw [stI_n (by omega), m2.A (Or.inr rfl)]
  have ft : FT scM τ (stI τc 570 40 0) := ((f1.tr xf).tr m2.ft).tr (FT.I (by unfold scM; omega))
  have hgap := h_gap (σ := sH σ (96 + 9 * P) w') (h := 96 + 9 * P) hP8 (by omega)
  have e4 : ∀ p, p < P → (sH σ (96 + 9 * P) w').1 (96 + 9 * P + 4) p = A2 (4 * p + 3) := fun p hp => by rw [sH_in (by omega)]; exact q4.1.c4 p hp
  obtain ⟨c1, c2⟩ := mxF_cg (f := (sH σ (96 + 9 * P) w').1 (96 + 9 * P + 4)) (g := fun p => A2 (4 * p + 3)) (P - 1) 1 (A2 3) (fun j _ h2 => e4 j (by omega))
  rw [show (sH σ (96 + 9 * P) w').1 (96 + 9 * P + 4) 0 = A2 3 from e4 0 (by omega), c1, c2] at hgap
  have ml := m_even_loop (τ := stI τc 570 40 0) (a := 584) e27 hP8 (P - 1) FUEL 1 ((stI τc 570 40 0).1 584 (Int32.toNatClampNeg 3)) ((stI τc 570 40 0).1 584 (Int32.toNatClampNeg 3)) (by omega) (by unfold FUEL; omega)
  rw [e84, show nI 1 = (1 : Int32) from rfl] at ml
  refine ⟨w', stI τc 570 40 0, _, q2, hgap, ?_, ?_, ft, ?_, ?_, ?_⟩
  · unfold s_Model_goFair_b
    rw [X.mP, if_pos rfl, b2, xb1_so, ex, s_Model_goFair_22]
    unfold s_Model_goFair_22_b
    rw [x27, if_pos (Int32.le_refl _), m1, xb1_so, xl_so]
    have ev : s_Model_evenIn 584 (stI τc 570 40 0) = some (mxF (fun p => A2 (4 * p + 3)) (P - 1) 1 (A2 3) - mnF (fun p => A2 (4 * p + 3)) (P - 1) 1 (A2 3), stI τc 570 40 0) := by
      unfold s_Model_evenIn
      rw [if_pos (show ib 3 290 by decide), xl_so, if_pos (show ib 3 290 by decide), xl_so, e84]
      exact ml
    rw [ev, xb2_so]
  · refine X.q (FR.g hh) ft ⟨?_, ?_, ?_, ?_⟩ (hD.I m2.2 (by omega))
    · rw [sH_lo (by omega)]; exact X.fin.1
    · rw [sH_lo (by omega)]; exact X.fin.2.1
    · rw [stI_570, if_neg (by omega), m2.fld (Or.inr rfl) (by omega) (by omega), x39]; exact X1.fin.2.2.1
    · rw [stI_570, if_pos rfl]
  · intro j
    rw [stI_n (by omega), m2.arr (by omega) (by omega) (by omega) (by omega), x94, n594]
  · rw [stI_570, if_neg (by omega), m2.fld (Or.inr rfl) (by omega) (by omega), x53, n570]
  · rw [stI_570, if_neg (by omega), m2.fld (Or.inr rfl) (by omega) (by omega), x54, n570]
end
