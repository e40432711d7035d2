/-! been: the block of the class under a set of goings -/
/-- what been changes in the class on its way -/
def bcC (b j : Nat) : Prop := scC b j ∨ (81 ≤ b ∧ b < 96)
theorem FR.bc {σ σ' : LH} (h : FR scC σ σ') : FR bcC σ σ' := ⟨fun b j q => h.1 b j (fun z => q (Or.inl z)), h.2⟩
theorem FR.br2 {σ σ' : LH} (h : FR bcC σ σ') {b : Nat} (hb : ∀ j, ¬ bcC b j) : σ'.1 b = σ.1 b := funext fun j => h.1 b j (hb j)
theorem FR.blo {σ σ' : LH} (h : FR bcC σ σ') : ∀ b, b = 5 ∨ b = 7 ∨ b = 9 ∨ b = 10 ∨ b = 34 → σ'.1 b = σ.1 b := fun b hb => h.br2 (fun j => by unfold bcC scC; omega)
theorem TL.bq {σ σ' : LH} {eN : Nat} (T : TL σ eN) (hσ : FR bcC σ σ') : TL σ' eN := by
  unfold TL at T ⊢
  rw [hσ.br2 (b := 35) (fun j => by unfold bcC scC; omega), hσ.br2 (b := 36) (fun j => by unfold bcC scC; omega)]
  exact T
section
variable {I : LH → Prop} {σ τ σ' τ' σ0 τ0 : LH} {S P n0 n E eN mm M t : Nat} {go : Nat → Nat} {L : Nat → Nat → Nat → Int32} {ln : Nat → Nat → Nat → Nat} {qn sn : Nat → Nat} {x x' : Int32}
theorem LK.qh (K : LK σ τ S P n0 0 n eN go (fun _ => 0) none L ln qn sn) (hσ : FR bcC σ σ') (hτ : FT scM τ τ') (h2 : σ'.1 38 2 = x) (h39 : τ'.1 570 39 = x) (hw : σ'.1 38 3 = -1) (hn : τ'.1 570 40 = 0) : LK σ' τ' S P n0 0 n eN go (fun _ => 0) none L ln qn sn := by
  obtain ⟨C, G, F, hGL, hEL, hq, hs, hT, hl, hn0⟩ := K
  have s : ∀ b, b = 4 ∨ b = 5 ∨ b = 7 ∨ b = 9 ∨ b = 10 ∨ b = 12 ∨ b = 13 ∨ b = 14 ∨ b = 33 ∨ b = 34 ∨ b = 35 ∨ b = 36 → σ'.1 b = σ.1 b := fun b hb => hσ.br2 (fun j => by unfold bcC scC; omega)
  have t1 : ∀ b, b = 575 ∨ b = 577 ∨ b = 579 ∨ b = 581 → τ'.1 b = τ.1 b := fun b hb => hτ.ar (fun j => by unfold scM; omega)
  have t2 : ∀ j, j = 26 ∨ j = 27 ∨ j = 28 → τ'.1 570 j = τ.1 570 j := fun j hj => hτ.1 570 j (by unfold scM; omega)
  refine ⟨?_, ?_, ?_, ?_, Or.inl ⟨rfl, rfl⟩, ?_, ?_, ?_, hl, hn0⟩
  · obtain ⟨c1, c2, c3, c4, c5, c6, c7, c8, c9, c10⟩ := C
    refine ⟨?_, c2, ?_, c4, ?_, c6, ?_, hw, c9, ?_⟩
    · rw [s 4 (by omega)]; exact c1
    · rw [s 4 (by omega)]; exact c3
    · rw [s 4 (by omega)]; exact c5
    · rw [s 12 (by omega)]; exact c7
    · rw [s 33 (by omega)]; exact c10
  · obtain ⟨g1, g2, g3, g4, g5, g6, g7, g8, g9, g10, g11, g12⟩ := G
    refine ⟨?_, g2, ?_, g4, ?_, g6, ?_, hn, g9, fun e he => absurd he (by omega), ?_, ?_⟩
    · rw [t2 26 (by omega)]; exact g1
    · rw [t2 27 (by omega)]; exact g3
    · rw [t2 28 (by omega)]; exact g5
    · rw [t1 579 (by omega)]; exact g7
    · show sml (fun p => τ'.1 577 (4 * p + 1)) P
      rw [t1 577 (by omega)]; exact g11
    · show sml (fun s => τ'.1 575 (3 * s + 2)) S
      rw [t1 575 (by omega)]; exact g12
  · unfold FX at F ⊢
    show (∀ s, s < S → σ'.1 5 s = τ'.1 575 (3 * s)) ∧ (∀ s, s < S → σ'.1 7 s = τ'.1 575 (3 * s + 2)) ∧ (∀ p, p < P → σ'.1 9 p = τ'.1 577 (4 * p + 1)) ∧ (∀ p, p < P → σ'.1 10 p = τ'.1 577 (4 * p + 2))
    rw [s 5 (by omega), s 7 (by omega), s 9 (by omega), s 10 (by omega), t1 577 (by omega), t1 575 (by omega)]
    exact F
  · unfold GL at hGL ⊢
    rw [s 13 (by omega), s 14 (by omega), h2, t1 579 (by omega), h39]
    intro g hg
    obtain ⟨u1, u2, u3, -, u5⟩ := hGL g hg
    refine ⟨u1, u2, u3, ?_, u5⟩
    rcases and_one01 (x >>> (nI g &&& 31)) with z | z
    · exact ⟨fun w => absurd z w, fun w => absurd (z.symm.trans w) (by decide)⟩
    · exact ⟨fun _ => z, fun _ w => absurd (z.symm.trans w) (by decide)⟩
  · show ∀ p, p < P → τ'.1 577 (4 * p + 1) = nI (qn p) ∧ qn p < 10
    rw [t1 577 (by omega)]
    exact hq
  · show ∀ p, p < P → τ'.1 577 (4 * p + 2) = nI (sn p) ∧ 1 ≤ sn p ∧ sn p < 1000
    rw [t1 577 (by omega)]
    exact hs
  · show ∀ m, m < eN → ∃ r, r < 100 ∧ σ'.1 35 m = nI r ∧ ∀ p s, p < P → s < S → σ'.1 34 (r * 64 + p * 8 + s) = L m p s
    rw [s 35 (by omega), s 34 (by omega)]
    exact hT
/-- the block after the minutes to t, under the goings of x -/
def PBx (L : Nat → Nat → Nat → Int32) (σ0 τ0 : LH) (S P n n0 mm M : Nat) (go : Nat → Nat) (t : Nat) (x : Int32) (w : Wd) : Prop := ∀ (τ' : LH), RMb τ0 τ' → Ag τ0 n0 mm t x (τ'.1 570 39) → ∀ (A : Nat → Int32) (v : Int32), HR σ0 S P n mm M (gH σ0 39) A → ∃ A' dd, dd ≤ 1000 * (t - mm) ∧ mRun L τ' S P n0 0 go (fun _ => 0) 1000 (t - mm) mm A v = some (A', v + nI dd) ∧ HR σ0 S P n t (M + dd) w A'
theorem PBx.zero {w : Wd} (we : WE (gH σ0 39) w) (hS8 : S ≤ 8) (hP8 : P ≤ 8) : PBx L σ0 τ0 S P n n0 mm M go mm x w := by
  intro τ' h1 h2 A v hH
  refine ⟨A, 0, by omega, ?_, hH.cp we hS8 hP8 (fun _ _ => rfl)⟩
  rw [Nat.sub_self]
  show some (A, v) = some (A, v + nI 0)
  rw [nI_0, Int32.add_zero]
theorem PBx.we {w w' : Wd} (h : PBx L σ0 τ0 S P n n0 mm M go t x w) (e : WE w w') (hS8 : S ≤ 8) (hP8 : P ≤ 8) : PBx L σ0 τ0 S P n n0 mm M go t x w' := by
  intro τ' h1 h2 A v hH
  obtain ⟨A', dd, d1, d2, d3⟩ := h τ' h1 h2 A v hH
  exact ⟨A', dd, d1, d2, d3.cp e hS8 hP8 (fun _ _ => rfl)⟩
theorem PBx.set {w : Wd} (h : PBx L σ0 τ0 S P n n0 mm M go t x w) (hx : Ag τ0 n0 mm t x x') : PBx L σ0 τ0 S P n n0 mm M go t x' w := fun τ' h1 h2 A v hH => h τ' h1 (hx.tr h2) A v hH
/-- the class goes on under a set -/
theorem PBx.run {h U Z : Nat} {w : Wd} (hB : PBx L σ0 τ0 S P n n0 mm M go t x w) (X0 : QX I σ0 τ0 S P n0 n E go L ln qn sn mm M) (fσ : FR bcC σ0 σ) (h2 : σ.1 38 2 = x) (hw : σ.1 38 3 = -1) (h39 : 39 ≤ h) (hU : U < 2 ^ 30) (hZ : Z = min U E) (hmt : mm ≤ t) (htZ : t ≤ Z) : ∃ w2, s_Evening_run h (nI U) (sH σ h w) = some (sH σ h w2) ∧ PBx L σ0 τ0 S P n n0 mm M go Z x w2 := by
  have hS8 := X0.S8
  have hP8 := X0.P8
  have hE := X0.e100
  have hM := X0.M1
  have hmE := X0.mE
  obtain ⟨τb, hτb⟩ : ∃ t, t = stI τ0 570 39 x := ⟨_, rfl⟩
  have b39 : τb.1 570 39 = x := by rw [hτb, stI_570, if_pos rfl]
  have fb : FT scM τ0 τb := by rw [hτb]; exact FT.I (by unfold scM; omega)
  have rb : RMb τ0 τb := ⟨fb.ar (fun j => by unfold scM; omega), fb.ar (fun j => by unfold scM; omega), fb.ar (fun j => by unfold scM; omega)⟩
  have K2 : LK σ τb S P n0 0 n (E + 1) go (fun _ => 0) none L ln qn sn := X0.1.qh fσ fb h2 b39 hw (by rw [hτb, stI_570, if_neg (by omega)]; exact X0.fin.2.2.2)
  have hEc : σ.1 4 15 = nI E := by rw [fσ.br2 (b := 4) (fun j => by unfold bcC scC; omega)]; exact X0.cE
  have one : ∀ (A : Nat → Int32) (M1 : Nat) (v : Int32), M1 ≤ 200000 → HR σ0 S P n t M1 w A → ∃ w2 A2 d2, d2 ≤ 1000 * (Z - t) ∧ s_Evening_run h (nI U) (sH σ h w) = some (sH σ h w2) ∧ mRun L τb S P n0 0 go (fun _ => 0) 1000 (Z - t) t A v = some (A2, v + nI d2) ∧ HR σ0 S P n Z (M1 + d2) w2 A2 := by
    intro A M1 v hM1 hH
    obtain ⟨w2, A2, d2, r1, r2, r3, r4⟩ := q_run (h := h) (U := U) (Z := Z) K2 (X0.2.1.bq fσ) h39 hEc hE (hH.s fσ.blo) hU hZ htZ hM1 v
    exact ⟨w2, A2, d2, r1, r2, r3, r4.s (fun b hb => (fσ.blo b hb).symm)⟩
  obtain ⟨A0, dd0, c1, c2, c3⟩ := hB τb rb (by rw [b39]; exact Ag.rf) (τ0.1 583) 0 X0.2.2.1
  obtain ⟨w2, A2, d2, -, p2, -, -⟩ := one A0 (M + dd0) 0 (by omega) c3
  refine ⟨w2, p2, ?_⟩
  intro τ' h1 hg A v hH
  obtain ⟨A1, dd, g1, g2, g3⟩ := hB τ' h1 (hg.lo (Nat.le_refl mm) htZ) A v hH
  obtain ⟨w3, A3, d3, q0, q1, q2, q3⟩ := one A1 (M + dd) (v + nI dd) (by omega) g3
  have ew : sH σ h w3 = sH σ h w2 := by
    rw [p2] at q1
    injection q1 with q1
    exact q1.symm
  have ec : ∀ c, c < 9 → w2 c = w3 c := fun c hc => by
    have := congrArg (fun s : LH => s.1 (h + c)) ew
    rw [sH_in hc, sH_in hc] at this
    exact this.symm
  have ww : WE w3 w2 := ⟨fun c _ _ j _ => by rw [ec c (by omega)], by rw [ec 0 (by omega)], by rw [ec 0 (by omega)], by rw [ec 0 (by omega)]⟩
  refine ⟨A3, dd + d3, by omega, ?_, ?_⟩
  · rw [show Z - mm = (t - mm) + (Z - t) by omega, mRun_app (t - mm) (Z - t) mm A v, g2]
    show mRun L τ' S P n0 0 go (fun _ => 0) 1000 (Z - t) (mm + (t - mm)) A1 (v + nI dd) = _
    rw [show mm + (t - mm) = t by omega]
    have rbt : RMb τb τ' := ⟨h1.1.trans rb.1.symm, h1.2.1.trans rb.2.1.symm, h1.2.2.trans rb.2.2.symm⟩
    have ag : Ag τb n0 t (t + (Z - t)) (τb.1 570 39) (τ'.1 570 39) := by
      intro g j z1 z2 z3 z4
      rw [b39]
      rw [rb.2.2] at z4
      exact hg g j z1 (by omega) (by omega) z4
    rw [mRun_hap rbt (Z - t) t A1 (v + nI dd) g3.2.1.1.2.1 ag, q2, Int32.add_assoc, nI_add]
  · rw [show M + (dd + d3) = M + dd + d3 by omega]
    exact q3.cp ww hS8 hP8 (fun _ _ => rfl)
end
