/-! what holds between two calls -/
/-- what acts may change in the model, but for what readings leave -/
def wX (b j : Nat) : Prop := b = 574 ∨ b = 583 ∨ b = 584 ∨ b = 586 ∨ b = 590 ∨ (b = 570 ∧ (j = 0 ∨ (8 ≤ j ∧ j ≤ 14) ∨ j = 17 ∨ j = 41 ∨ j = 46))
/-- the memo's invariant, and a frame -/
def I0 (I : LH → Prop) (τ0 τ : LH) : Prop := I τ ∧ FT wX τ0 τ
/-- a frame of the class -/
def J0 (σ0 σ : LH) : Prop := (∀ b, b ≠ 1 → (b < 39 ∨ 48 ≤ b) → (b < 210 ∨ 570 ≤ b) → σ.1 b = σ0.1 b) ∧ (∀ j, j ≠ 13 → j ≠ 14 → σ.1 1 j = σ0.1 1 j) ∧ σ.2 = σ0.2
theorem J0.rf {σ : LH} : J0 σ σ := ⟨fun _ _ _ _ => rfl, fun _ _ _ => rfl, rfl⟩
theorem J0.cl {σ0 : LH} : Jcl (J0 σ0) := by
  refine ⟨fun σ w h => ⟨fun b h1 h2 h3 => ?_, fun j h1 h2 => ?_, ?_⟩, fun σ σ' h e1 e2 e3 => ⟨fun b h1 h2 h3 => ?_, fun j h1 h2 => ?_, ?_⟩⟩
  · rw [sH_off (by omega)]; exact h.1 b h1 h2 h3
  · rw [sH_lo (by omega)]; exact h.2.1 j h1 h2
  · exact h.2.2
  · exact (e1 b h1 h3).trans (h.1 b h1 h2 h3)
  · exact (e2 j h1 h2).trans (h.2.1 j h1 h2)
  · exact e3.trans h.2.2
theorem SE.wx {τ τ' : LH} (h : SE τ τ') : FT wX τ τ' := ⟨fun b j q => h.1 b j (by unfold wX at q; unfold nsc; omega), h.2.1, h.2.2⟩
section
variable {I : LH → Prop} {σ τ σ' τ' σ0 τ0 : LH} {S P n0 n E mm M k N : Nat} {go : Nat → Nat} {L : Nat → Nat → Nat → Int32} {ln : Nat → Nat → Nat → Nat} {qn sn : Nat → Nat}
theorem I0.lk (hL : LKok I P S L) : LKok (I0 I τ0) P S L := fun τ p x m h hp hx hm => by
  obtain ⟨τ', h1, h2, h3⟩ := hL τ p x m h.1 hp hx hm
  exact ⟨τ', h1, h2, h3, h.2.tr h2.wx⟩
theorem I0.cl (hD : Idep I) : Icl (I0 I τ0) := by
  refine ⟨fun τ a A h ha => ⟨hD.cl.1 τ a A h.1 ha, h.2.tr (FT.F (fun j => ?_))⟩, fun τ v h => ⟨hD.cl.2 τ v h.1, h.2.tr (FT.I ?_)⟩⟩
  · unfold aW at ha; unfold wX; omega
  · unfold wX; omega
theorem I0.past (hD : Idep I) : Ipast (I0 I τ0) (J0 σ0) := by
  refine ⟨fun τ τ' h e1 e2 e3 => ⟨?_, h.2.tr ⟨fun b j q => ?_, fun b _ => by rw [e3], by rw [e3]⟩⟩, J0.cl⟩
  · exact hD τ τ' h.1 (fun b hb => e1 b (by omega) (by omega)) (e2 35 (by omega)) (by rw [e3])
  · by_cases z : b = 570
    · subst z
      exact e2 j (fun y => q (by unfold wX; omega))
    · exact congrFun (e1 b z (fun y => q (by unfold wX; omega))) j
theorem I0.z (hD : Idep I) (h : I0 I τ0 τ) : I0 I τ0 (stI τ 570 0 0) := ⟨hD.I h.1 (by omega), h.2.tr (FT.I (by unfold wX; omega))⟩
/-- for acts: the now, its past, a memo and frames -/
theorem QX.gi (X : QX I σ τ S P n0 n E go L ln qn sn mm M) (hG : Lg (gH σ 39) (τ.1 583) M) (hP : PR σ τ S P n (E + 1) k N) : GI (I0 I τ) (J0 σ) σ τ S P n0 0 n (E + 1) go (fun _ => 0) none L ln qn sn mm M k N := ⟨X.1, X.2.2.1, hG, hP, ⟨X.it, ⟨fun _ _ _ => rfl, fun _ _ => rfl, rfl⟩⟩, J0.rf⟩
theorem QX.ofgi (X : QX I σ τ S P n0 n E go L ln qn sn mm M) {mm' M' k' N' : Nat} (h : GI (I0 I τ) (J0 σ) σ' τ' S P n0 0 n (E + 1) go (fun _ => 0) none L ln qn sn mm' M' k' N') (h1 : mm' ≤ E) (h2 : M' ≤ 1000 * mm') : QX I σ' τ' S P n0 n E go L ln qn sn mm' M' ∧ Lg (gH σ' 39) (τ'.1 583) M' ∧ PR σ' τ' S P n (E + 1) k' N' ∧ J0 σ σ' ∧ FT wX τ τ' := by
  obtain ⟨g1, g2, g3, g4, ⟨g5, g6⟩, g7⟩ := h
  obtain ⟨x1, x2, x3, x4, x5, x6, x7, x8, x9, x10, x11, x12⟩ := X
  have e : ∀ b, b = 4 ∨ b = 35 ∨ b = 36 ∨ b = 38 → σ'.1 b = σ.1 b := fun b hb => g7.1 b (by omega) (by omega) (by omega)
  refine ⟨⟨g1, ?_, g2, ?_, ?_, x6, h1, h2, x9, x10, ⟨?_, ?_, ?_, ?_⟩, g5⟩, g3, g4, g7, g6⟩
  · unfold TL at x2 ⊢
    rw [e 35 (by omega), e 36 (by omega)]
    exact x2
  · rw [e 4 (by omega)]; exact x4
  · rw [g6.1 581 1 (by unfold wX; omega)]; exact x5
  · rw [e 38 (by omega)]; exact x11.1
  · rw [e 38 (by omega)]; exact x11.2.1
  · rw [g6.1 570 39 (by unfold wX; omega)]; exact x11.2.2.1
  · rw [g6.1 570 40 (by unfold wX; omega)]; exact x11.2.2.2
theorem PR.q (h : PR σ τ S P n (E + 1) k N) (hS8 : S ≤ 8) (hP8 : P ≤ 8) (hσ : FR scC σ σ') (hτ : FT scM τ τ') : PR σ' τ' S P n (E + 1) k N := by
  obtain ⟨p1, p2, p3, p4, p5, p6⟩ := h
  refine ⟨?_, ?_, ?_, p4, p5, fun i hi => ?_⟩
  · rw [hσ.1 1 13 (by unfold scC; omega)]; exact p1
  · rw [hσ.1 1 14 (by unfold scC; omega)]; exact p2
  · rw [hτ.1 570 46 (by unfold scM; omega)]; exact p3
  · have old := p6 i hi
    generalize (N + 40 - i) % 40 = x at old ⊢
    have ex : ∀ c, c < 9 → gH σ' (210 + 9 * x) c = gH σ (210 + 9 * x) c := fun c hc => hσ.ar (b := 210 + 9 * x + c) (fun j => by unfold scC; omega)
    have e90 : τ'.1 590 = τ.1 590 := hτ.ar (fun j => by unfold scM; omega)
    exact old.cp hS8 hP8 hσ.lo ⟨fun c _ _ j _ => by rw [ex c (by omega)], by rw [ex 0 (by omega)], by rw [ex 0 (by omega)], by rw [ex 0 (by omega)]⟩ (fun j _ => by rw [ex 8 (by omega)]) (fun j hj => by rw [e90])
theorem Lg.q (h : Lg (gH σ 39) (τ.1 583) M) (hσ : FR scC σ σ') (hτ : FT scM τ τ') : Lg (gH σ' 39) (τ'.1 583) M := by
  have e0 : gH σ' 39 0 = gH σ 39 0 := hσ.ar (b := 39 + 0) (fun j => by unfold scC; omega)
  have e8 : gH σ' 39 8 = gH σ 39 8 := hσ.ar (b := 39 + 8) (fun j => by unfold scC; omega)
  have e83 : τ'.1 583 = τ.1 583 := hτ.ar (fun j => by unfold scM; omega)
  unfold Lg at h ⊢
  rw [e0, e8, e83]
  exact h
end
