/-! what is asked leaves alone: frames; both sides at the start of a question -/
theorem ite10 {α : Type} {c : Prop} [Decidable c] {a b : α} : (if (if c then (1 : Int32) else 0) = 0 then a else b) = if c then b else a := by
  by_cases q : c
  · rw [if_pos q, if_pos q, if_neg (show ¬ (1 : Int32) = 0 by decide)]
  · rw [if_neg q, if_neg q, if_pos rfl]
theorem ite01 {α : Type} {c : Prop} [Decidable c] {a b : α} : (if (if c then (0 : Int32) else 1) = 0 then a else b) = if c then a else b := by
  by_cases q : c
  · rw [if_pos q, if_pos q, if_pos rfl]
  · rw [if_neg q, if_neg q, if_neg (show ¬ (1 : Int32) = 0 by decide)]
def scC (b j : Nat) : Prop := (b = 38 ∧ 2 ≤ j ∧ j ≤ 5) ∨ (58 ≤ b ∧ b ≤ 80) ∨ (b = 81 ∧ 5 ≤ j ∧ j ≤ 7) ∨ (96 ≤ b ∧ b < 195)
def scM (b j : Nat) : Prop := (b = 570 ∧ (j = 0 ∨ (8 ≤ j ∧ j ≤ 14) ∨ j = 17 ∨ (39 ≤ j ∧ j ≤ 41) ∨ j = 51 ∨ j = 53 ∨ j = 54)) ∨ b = 574 ∨ b = 584 ∨ (586 ≤ b ∧ b ≤ 589) ∨ (591 ≤ b ∧ b ≤ 594)
def FR (W : Nat → Nat → Prop) (σ σ' : LH) : Prop := (∀ b j, ¬ W b j → σ'.1 b j = σ.1 b j) ∧ σ'.2 = σ.2
def FT (W : Nat → Nat → Prop) (τ τ' : LH) : Prop := (∀ b j, ¬ W b j → τ'.1 b j = τ.1 b j) ∧ (∀ b, b ≠ 585 → τ'.2.1 b = τ.2.1 b) ∧ τ'.2.2.1 = τ.2.2.1
theorem FR.rf {W : Nat → Nat → Prop} {σ : LH} : FR W σ σ := ⟨fun _ _ _ => rfl, rfl⟩
theorem FT.rf {W : Nat → Nat → Prop} {τ : LH} : FT W τ τ := ⟨fun _ _ _ => rfl, fun _ _ => rfl, rfl⟩
theorem FR.tr {W : Nat → Nat → Prop} {σ σ' σ'' : LH} (h : FR W σ σ') (h' : FR W σ' σ'') : FR W σ σ'' := ⟨fun b j q => (h'.1 b j q).trans (h.1 b j q), h'.2.trans h.2⟩
theorem FT.tr {W : Nat → Nat → Prop} {τ τ' τ'' : LH} (h : FT W τ τ') (h' : FT W τ' τ'') : FT W τ τ'' := ⟨fun b j q => (h'.1 b j q).trans (h.1 b j q), fun b q => (h'.2.1 b q).trans (h.2.1 b q), h'.2.2.trans h.2.2⟩
theorem FR.I {W : Nat → Nat → Prop} {σ : LH} {a i : Nat} {v : Int32} (h : W a i) : FR W σ (stI σ a i v) := by
  refine ⟨fun b j q => ?_, rfl⟩
  by_cases e : b = a
  · subst e
    rw [stI_e]
    exact if_neg (fun (z : j = i) => q (by rw [z]; exact h))
  · rw [stI_n e]
theorem FT.I {W : Nat → Nat → Prop} {τ : LH} {a i : Nat} {v : Int32} (h : W a i) : FT W τ (stI τ a i v) := by
  refine ⟨fun b j q => ?_, fun _ _ => rfl, rfl⟩
  by_cases e : b = a
  · subst e
    rw [stI_e]
    exact if_neg (fun (z : j = i) => q (by rw [z]; exact h))
  · rw [stI_n e]
theorem FT.F {W : Nat → Nat → Prop} {τ : LH} {a : Nat} {f : Nat → Int32} (h : ∀ j, W a j) : FT W τ (stF τ a f) := by
  refine ⟨fun b j q => ?_, fun _ _ => rfl, rfl⟩
  by_cases e : b = a
  · subst e
    exact absurd (h j) q
  · rw [stF_n e]
theorem FR.H {W : Nat → Nat → Prop} {σ : LH} {h : Nat} {w : Wd} (hW : ∀ b j, h ≤ b → b < h + 9 → W b j) : FR W σ (sH σ h w) := by
  refine ⟨fun b j q => ?_, rfl⟩
  by_cases e : b < h ∨ h + 9 ≤ b
  · rw [sH_off e]
  · exact absurd (hW b j (by omega) (by omega)) q
theorem FR.ar {σ σ' : LH} (h : FR scC σ σ') {b : Nat} (hb : ∀ j, ¬ scC b j) : σ'.1 b = σ.1 b := funext fun j => h.1 b j (hb j)
theorem FT.ar {τ τ' : LH} (h : FT scM τ τ') {b : Nat} (hb : ∀ j, ¬ scM b j) : τ'.1 b = τ.1 b := funext fun j => h.1 b j (hb j)
/-- halls for guesses -/
def gh (h : Nat) : Prop := (58 ≤ h ∧ h + 9 ≤ 81) ∨ (96 ≤ h ∧ h + 9 ≤ 195)
theorem FR.g {σ : LH} {h : Nat} {w : Wd} (hh : gh h) : FR scC σ (sH σ h w) := FR.H (fun b j h1 h2 => by unfold gh at hh; unfold scC; omega)
theorem SE.ft {τ τ' : LH} (h : SE τ τ') : FT scM τ τ' := ⟨fun b j q => h.1 b j (by unfold scM at q; unfold nsc; omega), h.2.1, h.2.2⟩
theorem Mt.ft {I : LH → Prop} {τ0 τ : LH} {A : Nat → Int32} {v : Int32} (h : Mt I τ0 584 A v τ) : FT scM τ0 τ := by
  have h1 : FT scM (stI (stF τ0 584 A) 570 41 v) τ := h.1.ft
  have h2 : FT scM τ0 (stF τ0 584 A) := FT.F (fun j => by unfold scM; omega)
  have h3 : FT scM (stF τ0 584 A) (stI (stF τ0 584 A) 570 41 v) := FT.I (by unfold scM; omega)
  exact (h2.tr h3).tr h1
/-- what the likings' memo rests on -/
def Idep (I : LH → Prop) : Prop := ∀ τ τ' : LH, I τ → (∀ b, b = 572 ∨ b = 573 ∨ b = 575 ∨ b = 577 ∨ b = 581 ∨ b = 586 → τ'.1 b = τ.1 b) → τ'.1 570 35 = τ.1 570 35 → τ'.2.1 585 = τ.2.1 585 → I τ'
theorem Idep.cl {I : LH → Prop} (h : Idep I) : Icl I := ⟨fun τ a A hI ha => h τ _ hI (fun b hb => stF_n (by unfold aW at ha; omega)) (by rw [stF_n (by unfold aW at ha; omega)]) rfl, fun τ v hI => h τ _ hI (fun b hb => stI_n (by omega)) (by rw [stI_570, if_neg (by omega)]) rfl⟩
theorem Idep.I {I : LH → Prop} (h : Idep I) {τ : LH} (hI : I τ) {j : Nat} {v : Int32} (hj : j ≠ 35) : I (stI τ 570 j v) := h τ _ hI (fun b hb => stI_n (by omega)) (by rw [stI_570, if_neg (by omega)]) rfl
theorem Idep.F {I : LH → Prop} (h : Idep I) {τ : LH} (hI : I τ) {a : Nat} {f : Nat → Int32} (ha : a ≠ 570 ∧ ¬ (a = 572 ∨ a = 573 ∨ a = 575 ∨ a = 577 ∨ a = 581 ∨ a = 586)) : I (stF τ a f) := h τ _ hI (fun b hb => stF_n (by omega)) (by rw [stF_n (by omega)]) rfl
def FIN (σ τ : LH) : Prop := σ.1 38 2 = 1023 ∧ σ.1 38 3 = -1 ∧ τ.1 570 39 = -1 ∧ τ.1 570 40 = 0
/-- both sides at the start of a question -/
def QX (I : LH → Prop) (σ τ : LH) (S P n0 n E : Nat) (go : Nat → Nat) (L : Nat → Nat → Nat → Int32) (ln : Nat → Nat → Nat → Nat) (qn sn : Nat → Nat) (mm M : Nat) : Prop :=
  LK σ τ S P n0 0 n (E + 1) go (fun _ => 0) none L ln qn sn ∧ TL σ (E + 1) ∧ HR σ S P n mm M (gH σ 39) (τ.1 583) ∧ σ.1 4 15 = nI E ∧ τ.1 581 1 = nI E ∧ E < 100 ∧ mm ≤ E ∧ M ≤ 1000 * mm ∧ (S = 0 ↔ P = 0) ∧ (P = 0 → E = 0) ∧ FIN σ τ ∧ I τ
section
variable {I : LH → Prop} {σ τ σ' τ' : LH} {S P n0 ne ne' n E eN mm M : Nat} {go ex ex' : Nat → Nat} {who who' : Option Nat} {L : Nat → Nat → Nat → Int32} {ln : Nat → Nat → Nat → Nat} {qn sn : Nat → Nat}
theorem LK.q (K : LK σ τ S P n0 ne n eN go ex who L ln qn sn) (hσ : FR scC σ σ') (hτ : FT scM τ τ') (h2 : σ'.1 38 2 = σ.1 38 2) (h39 : τ'.1 570 39 = τ.1 570 39) (hw : σ'.1 38 3 = oI who') (hw2 : ∀ p, who' = some p → p < P) (hn : τ'.1 570 40 = nI ne') (hn8 : ne' ≤ 8) (hx : ∀ e, e < ne' → τ'.1 587 e = nI (ex' e) ∧ ex' e < P) (hE : EL τ' who' (σ'.1 38 4) (σ'.1 38 5) ne' ex') : LK σ' τ' S P n0 ne' n eN go ex' who' L ln qn sn := by
  obtain ⟨C, G, F, hGL, hEL, hq, hs, hT, hl, hn0⟩ := K
  have s : ∀ b, b = 4 ∨ b = 5 ∨ b = 7 ∨ b = 9 ∨ b = 10 ∨ b = 12 ∨ b = 13 ∨ b = 14 ∨ b = 33 ∨ b = 34 ∨ b = 35 ∨ b = 36 → σ'.1 b = σ.1 b := fun b hb => hσ.ar (fun j => by unfold scC; omega)
  have t1 : ∀ b, b = 575 ∨ b = 577 ∨ b = 579 ∨ b = 581 → τ'.1 b = τ.1 b := fun b hb => hτ.ar (fun j => by unfold scM; omega)
  have t2 : ∀ j, j = 26 ∨ j = 27 ∨ j = 28 → τ'.1 570 j = τ.1 570 j := fun j hj => hτ.1 570 j (by unfold scM; omega)
  refine ⟨?_, ?_, ?_, ?_, hE, ?_, ?_, ?_, hl, hn0⟩
  · obtain ⟨c1, c2, c3, c4, c5, c6, c7, c8, c9, c10⟩ := C
    refine ⟨?_, c2, ?_, c4, ?_, c6, ?_, hw, hw2, ?_⟩
    · rw [s 4 (by omega)]; exact c1
    · rw [s 4 (by omega)]; exact c3
    · rw [s 4 (by omega)]; exact c5
    · rw [s 12 (by omega)]; exact c7
    · rw [s 33 (by omega)]; exact c10
  · obtain ⟨g1, g2, g3, g4, g5, g6, g7, g8, g9, g10, g11, g12⟩ := G
    refine ⟨?_, g2, ?_, g4, ?_, g6, ?_, hn, hn8, hx, ?_, ?_⟩
    · rw [t2 26 (by omega)]; exact g1
    · rw [t2 27 (by omega)]; exact g3
    · rw [t2 28 (by omega)]; exact g5
    · rw [t1 579 (by omega)]; exact g7
    · show sml (fun p => τ'.1 577 (4 * p + 1)) P
      rw [t1 577 (by omega)]; exact g11
    · show sml (fun s => τ'.1 575 (3 * s + 2)) S
      rw [t1 575 (by omega)]; exact g12
  · unfold FX at F ⊢
    show (∀ s, s < S → σ'.1 5 s = τ'.1 575 (3 * s)) ∧ (∀ s, s < S → σ'.1 7 s = τ'.1 575 (3 * s + 2)) ∧ (∀ p, p < P → σ'.1 9 p = τ'.1 577 (4 * p + 1)) ∧ (∀ p, p < P → σ'.1 10 p = τ'.1 577 (4 * p + 2))
    rw [s 5 (by omega), s 7 (by omega), s 9 (by omega), s 10 (by omega), t1 577 (by omega), t1 575 (by omega)]
    exact F
  · unfold GL at hGL ⊢
    rw [s 13 (by omega), s 14 (by omega), h2, t1 579 (by omega), h39]
    exact hGL
  · show ∀ p, p < P → τ'.1 577 (4 * p + 1) = nI (qn p) ∧ qn p < 10
    rw [t1 577 (by omega)]
    exact hq
  · show ∀ p, p < P → τ'.1 577 (4 * p + 2) = nI (sn p) ∧ 1 ≤ sn p ∧ sn p < 1000
    rw [t1 577 (by omega)]
    exact hs
  · show ∀ m, m < eN → ∃ r, r < 100 ∧ σ'.1 35 m = nI r ∧ ∀ p s, p < P → s < S → σ'.1 34 (r * 64 + p * 8 + s) = L m p s
    rw [s 35 (by omega), s 34 (by omega)]
    exact hT
theorem TL.q (T : TL σ eN) (hσ : FR scC σ σ') : TL σ' eN := by
  unfold TL at T ⊢
  rw [hσ.ar (b := 35) (fun j => by unfold scC; omega), hσ.ar (b := 36) (fun j => by unfold scC; omega)]
  exact T
theorem FR.we (hσ : FR scC σ σ') : WE (gH σ 39) (gH σ' 39) := by
  have e : ∀ c, c < 9 → gH σ' 39 c = gH σ 39 c := fun c hc => hσ.ar (b := 39 + c) (fun j => by unfold scC; omega)
  exact ⟨fun c _ _ j _ => by rw [e c (by omega)], by rw [e 0 (by omega)], by rw [e 0 (by omega)], by rw [e 0 (by omega)]⟩
theorem FR.lo (hσ : FR scC σ σ') : ∀ b, b = 5 ∨ b = 7 ∨ b = 9 ∨ b = 10 ∨ b = 34 → σ'.1 b = σ.1 b := fun b hb => hσ.ar (fun j => by unfold scC; omega)
theorem QX.q (X : QX I σ τ S P n0 n E go L ln qn sn mm M) (hσ : FR scC σ σ') (hτ : FT scM τ τ') (hF : FIN σ' τ') (hI : I τ') : QX I σ' τ' S P n0 n E go L ln qn sn mm M := by
  obtain ⟨K, T, R, x1, x2, x3, x4, x5, x6, x7, x8, -⟩ := X
  have hS8 : S ≤ 8 := K.1.2.1
  have hP8 : P ≤ 8 := K.1.2.2.2.1
  refine ⟨K.q hσ hτ (hF.1.trans x8.1.symm) (hF.2.2.1.trans x8.2.2.1.symm) hF.2.1 (fun p z => by cases z) hF.2.2.2 (by omega) (fun e he => by omega) (Or.inl ⟨rfl, rfl⟩), T.q hσ, ?_, ?_, ?_, x3, x4, x5, x6, x7, hF, hI⟩
  · rw [hτ.ar (b := 583) (fun j => by unfold scM; omega)]
    exact (R.s hσ.lo).cp hσ.we hS8 hP8 (fun _ _ => rfl)
  · rw [hσ.ar (b := 4) (fun j => by unfold scC; omega)]; exact x1
  · rw [hτ.ar (b := 581) (fun j => by unfold scM; omega)]; exact x2
/-- a hall and a world for a guess, as it is now -/
theorem q_begin0 {h : Nat} (R : HR σ S P n mm M (gH σ 39) (τ.1 583)) (hS8 : S ≤ 8) (hP8 : P ≤ 8) (hh : gh h) : ∃ w A, s_Hall_beginAs h 39 σ = some (sH σ h w) ∧ s_Model_copy 583 584 τ = some (stF τ 584 A) ∧ HR σ S P n mm M w A ∧ WE (gH σ 39) w ∧ ∀ j, j < 50 → A j = τ.1 583 j := by
  obtain ⟨g, g1, g2⟩ := R.2.1.1.2.2
  have hb := h_beginAs (σ := σ) (a := h) (b := 39) (x := gH σ h) (y := gH σ 39) (by unfold gh at hh; omega) (fun c hc => rfl)
  rw [sH_gH] at hb
  have hA : ∀ j, j < 50 → cpy (50 + 4 * g) (τ.1 583) (τ.1 584) j = τ.1 583 j := fun j hj => if_pos (by omega)
  exact ⟨_, _, hb, m_copy (by omega) g2 g1, R.cp wBeg_e hS8 hP8 hA, wBeg_e, hA⟩
theorem q_begin {h : Nat} (X : QX I σ τ S P n0 n E go L ln qn sn mm M) (hh : gh h) : ∃ w A, s_Hall_beginAs h 39 σ = some (sH σ h w) ∧ s_Model_copy 583 584 τ = some (stF τ 584 A) ∧ HR σ S P n mm M w A ∧ WE (gH σ 39) w ∧ ∀ j, j < 50 → A j = τ.1 583 j := q_begin0 X.2.2.1 X.1.1.2.1 X.1.1.2.2.2.1 hh
/-- the class goes on, as the model does minute by minute -/
theorem q_run {h U Z : Nat} (K : LK σ τ S P n0 ne n (E + 1) go ex who L ln qn sn) (T : TL σ (E + 1)) (h39 : 39 ≤ h) (hEc : σ.1 4 15 = nI E) (hE : E < 100) {w : Wd} {A : Nat → Int32} (R : HR σ S P n mm M w A) (hU : U < 2 ^ 30) (hZ : Z = min U E) (hmZ : mm ≤ Z) (hM : M ≤ 200000) (v : Int32) : ∃ w' A' d, d ≤ 1000 * (Z - mm) ∧ s_Evening_run h (nI U) (sH σ h w) = some (sH σ h w') ∧ mRun L τ S P n0 ne go ex 1000 (Z - mm) mm A v = some (A', v + nI d) ∧ HR σ S P n Z (M + d) w' A' := by
  obtain ⟨w', A', d, r0, r1, r2, r3, r4, r5, r6, -⟩ := st_run (h := h) (u := nI U) K T h39 (show Z < E + 1 by omega) (by omega) (Z - mm) mm 0 FUEL M w A v (by omega) (by omega) (by unfold FUEL; omega) R.1 R.2.1 R.2.2.1 R.2.2.2 (by omega)
  rw [nI_0] at r1
  refine ⟨w', A', d, r0, ?_, r2, r3, r4, r5, r6⟩
  unfold s_Evening_run s_Evening_run_22
  rw [sH_lo (b := 4) (by omega), hEc]
  by_cases q : E ≤ U
  · rw [if_pos (nI_le q (by omega))]
    rw [show Z = E by omega] at r1
    exact r1
  · rw [if_neg (nI_ge (by omega) (by omega))]
    rw [show Z = U by omega] at r1
    exact r1
/-- to the end, both -/
theorem q_toEnd {h U : Nat} (hI : Icl I) (hL : LKok I P S L) (K : LK σ τ S P n0 ne n (E + 1) go ex who L ln qn sn) (T : TL σ (E + 1)) (h39 : 39 ≤ h) (hEc : σ.1 4 15 = nI E) (hEm : τ.1 581 1 = nI E) (hE : E < 100) (hIt : I τ) {w : Wd} (R : HR σ S P n mm M w (τ.1 584)) (hU : U < 2 ^ 30) (hZ : E ≤ U) (hmE : mm ≤ E) (hM : M ≤ 200000) : ∃ w' A' d τ', d ≤ 100000 ∧ s_Evening_run h (nI U) (sH σ h w) = some (sH σ h w') ∧ s_Model_toEnd 584 τ = some τ' ∧ Mt I τ 584 A' (nI d) τ' ∧ HR σ S P n E (M + d) w' A' := by
  obtain ⟨w', A', d, r0, r1, r2, r3⟩ := q_run (U := U) (Z := E) K T h39 hEc hE R hU (by omega) hmE hM 0
  have hd : (0 : Int32) + nI d = nI d := by rw [Int32.zero_add]
  rw [hd] at r2
  obtain ⟨⟨τ', m1, m2⟩, -⟩ := m_toEnd hI hL (Or.inr rfl) K.2.1 (show 1000 < 10000 by omega) hEm (by omega) hmE R.2.1.1 (Mt.rf hIt) r2
  exact ⟨w', A', d, τ', by omega, r1, m1, m2, r3⟩
end
