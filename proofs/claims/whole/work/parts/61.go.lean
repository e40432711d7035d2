/-! both: a minute remembered and gone -/
theorem Mt.rf {I : LH → Prop} {a : Nat} {τ : LH} (h : I τ) : Mt I τ a (τ.1 a) (τ.1 570 41) τ := by
  refine ⟨?_, h⟩
  have e1 : stF τ a (τ.1 a) = τ := stF_id
  have e2 : stI τ 570 41 (τ.1 570 41) = τ := by
    unfold stI
    have : upd (τ.1 570) 41 (τ.1 570 41) = τ.1 570 := by
      funext j
      rw [upd_e]
      by_cases q : j = 41
      · rw [if_pos q, q]
      · rw [if_neg q]
    rw [this, stF_id]
  rw [e1, e2]
  exact SE.rf
def cLK (σ σ' : LH) : Prop := ∀ b, b = 4 ∨ b = 5 ∨ b = 7 ∨ b = 9 ∨ b = 10 ∨ b = 12 ∨ b = 13 ∨ b = 14 ∨ b = 33 ∨ b = 34 ∨ b = 35 ∨ b = 36 ∨ b = 38 → σ'.1 b = σ.1 b
def mLK (τ τ' : LH) : Prop := (∀ b, b = 575 ∨ b = 577 ∨ b = 579 ∨ b = 581 ∨ b = 587 ∨ b = 588 ∨ b = 589 → τ'.1 b = τ.1 b) ∧ ∀ j, j = 26 ∨ j = 27 ∨ j = 28 ∨ j = 39 ∨ j = 40 → τ'.1 570 j = τ.1 570 j
theorem LK.cg {σ σ' τ τ' : LH} {S P n0 ne n eN : Nat} {go ex : Nat → Nat} {who : Option Nat} {L : Nat → Nat → Nat → Int32} {ln : Nat → Nat → Nat → Nat} {qn sn : Nat → Nat} (K : LK σ τ S P n0 ne n eN go ex who L ln qn sn) (hσ : cLK σ σ') (hτ : mLK τ τ') : LK σ' τ' S P n0 ne n eN go ex who L ln qn sn := by
  obtain ⟨C, G, F, hGL, hEL, hq, hs, hT, hl, hn⟩ := K
  obtain ⟨t1, t2⟩ := hτ
  refine ⟨?_, ?_, ?_, ?_, ?_, ?_, ?_, ?_, hl, hn⟩
  · unfold CFix at C ⊢
    rw [hσ 4 (by omega), hσ 12 (by omega), hσ 38 (by omega), hσ 33 (by omega)]
    exact C
  · unfold MGo MRng at G ⊢
    rw [t2 26 (by omega), t2 27 (by omega), t2 28 (by omega), t2 40 (by omega), t1 579 (by omega), t1 587 (by omega)]
    show _ ∧ _ ∧ _ ∧ _ ∧ _ ∧ _ ∧ _ ∧ _ ∧ _ ∧ _ ∧ sml (fun p => τ'.1 577 (4 * p + 1)) P ∧ sml (fun s => τ'.1 575 (3 * s + 2)) S
    rw [t1 577 (by omega), t1 575 (by omega)]
    exact G
  · unfold FX at F ⊢
    show (∀ s, s < S → σ'.1 5 s = τ'.1 575 (3 * s)) ∧ (∀ s, s < S → σ'.1 7 s = τ'.1 575 (3 * s + 2)) ∧ (∀ p, p < P → σ'.1 9 p = τ'.1 577 (4 * p + 1)) ∧ (∀ p, p < P → σ'.1 10 p = τ'.1 577 (4 * p + 2))
    rw [hσ 5 (by omega), hσ 7 (by omega), hσ 9 (by omega), hσ 10 (by omega), t1 577 (by omega), t1 575 (by omega)]
    exact F
  · unfold GL at hGL ⊢
    rw [hσ 13 (by omega), hσ 14 (by omega), hσ 38 (by omega), t1 579 (by omega), t2 39 (by omega)]
    exact hGL
  · unfold EL at hEL ⊢
    rw [hσ 38 (by omega), t1 588 (by omega), t1 589 (by omega)]
    exact hEL
  · show ∀ p, p < P → τ'.1 577 (4 * p + 1) = nI (qn p) ∧ qn p < 10
    rw [t1 577 (by omega)]
    exact hq
  · show ∀ p, p < P → τ'.1 577 (4 * p + 2) = nI (sn p) ∧ 1 ≤ sn p ∧ sn p < 1000
    rw [t1 577 (by omega)]
    exact hs
  · show ∀ m, m < eN → ∃ r, r < 100 ∧ σ'.1 35 m = nI r ∧ ∀ p s, p < P → s < S → σ'.1 34 (r * 64 + p * 8 + s) = L m p s
    rw [hσ 35 (by omega), hσ 34 (by omega)]
    exact hT
/-- what a row of acts keeps -/
def GI (I J : LH → Prop) (σ τ : LH) (S P n0 ne n eN : Nat) (go ex : Nat → Nat) (who : Option Nat) (L : Nat → Nat → Nat → Int32) (ln : Nat → Nat → Nat → Nat) (qn sn : Nat → Nat) (mm M k N : Nat) : Prop := LK σ τ S P n0 ne n eN go ex who L ln qn sn ∧ HR σ S P n mm M (gH σ 39) (τ.1 583) ∧ Lg (gH σ 39) (τ.1 583) M ∧ PR σ τ S P n eN k N ∧ I τ ∧ J σ
/-- what stands apart from now and the past, in the class -/
def Jcl (J : LH → Prop) : Prop := (∀ σ w, J σ → J (sH σ 39 w)) ∧ ∀ σ σ' : LH, J σ → (∀ b, b ≠ 1 → b < 210 ∨ 570 ≤ b → σ'.1 b = σ.1 b) → (∀ j, j ≠ 13 → j ≠ 14 → σ'.1 1 j = σ.1 1 j) → σ'.2 = σ.2 → J σ'
/-- the likings' memo stands apart from the past -/
def Ipast (I J : LH → Prop) : Prop := (∀ τ τ' : LH, I τ → (∀ b, b ≠ 570 → b ≠ 590 → τ'.1 b = τ.1 b) → (∀ j, j ≠ 46 → τ'.1 570 j = τ.1 570 j) → τ'.2 = τ.2 → I τ') ∧ Jcl J
theorem gH_sH {σ : LH} {h : Nat} {w : Wd} : ∀ c, c < 9 → gH (sH σ h w) h c = w c := fun _ hc => sH_in hc
theorem st_remgo {I J : LH → Prop} {σ τ : LH} {S P n0 ne n eN mm M k N : Nat} {go ex : Nat → Nat} {who : Option Nat} {L : Nat → Nat → Nat → Int32} {ln : Nat → Nat → Nat → Nat} {qn sn : Nat → Nat} (hI : Icl I) (hIp : Ipast I J) (hL : LKok I P S L) (h : GI I J σ τ S P n0 ne n eN go ex who L ln qn sn mm M k N) (hm : mm + 1 < eN) (heN : eN ≤ 100) (hM : M ≤ 1000 * mm) : ∃ σ1 σ2 τ1 τ2 M2, s_Main_remember σ = some σ1 ∧ s_Evening_pass 39 σ1 = some σ2 ∧ s_Model_remember τ = some τ1 ∧ s_Model_goMinute 583 τ1 = some τ2 ∧ M2 < M + 1000 ∧ GI I J σ2 τ2 S P n0 ne n eN go ex who L ln qn sn (mm + 1) M2 (min (k + 1) 40) ((N + 1) % 40) := by
  obtain ⟨K, ⟨hR, hW, hO, h8⟩, hG, hP, hIt, hJt⟩ := h
  have hS8 : S ≤ 8 := K.1.2.1
  have hP8 : P ≤ 8 := K.1.2.2.2.1
  obtain ⟨σ1, τ1, r1, r2, P1, s1, s2, s3, t1, t2, t3⟩ := hP.remember hS8 hP8 ⟨mm, M, by omega, by omega, ⟨hR, hW, hO, h8⟩, hG⟩
  have e39 : gH σ1 39 = gH σ 39 ∨ True := Or.inr trivial
  have eg : ∀ c, c < 9 → gH σ1 39 c = gH σ 39 c := fun c hc => s1 (39 + c) (by omega) (by omega)
  have e83 : τ1.1 583 = τ.1 583 := t1 583 (by omega) (by omega)
  have we : WE (gH σ 39) (gH σ1 39) := ⟨fun c _ _ j _ => by rw [eg c (by omega)], by rw [eg 0 (by omega)], by rw [eg 0 (by omega)], by rw [eg 0 (by omega)]⟩
  have cl : cLK σ σ1 := fun b hb => s1 b (by omega) (by omega)
  have ml : mLK τ τ1 := ⟨fun b hb => t1 b (by omega) (by omega), fun j hj => t2 j (by omega)⟩
  have K1 := K.cg cl ml
  have lo : ∀ b, b = 5 ∨ b = 7 ∨ b = 9 ∨ b = 10 ∨ b = 34 → σ1.1 b = σ.1 b := fun b hb => s1 b (by omega) (by omega)
  obtain ⟨R1, W1, O1, M1⟩ := (HR.s (σ' := σ1) (⟨hR, hW, hO, h8⟩ : HR σ S P n mm M (gH σ 39) (τ.1 583)) lo).cp we hS8 hP8 (B := τ1.1 583) (fun j _ => by rw [e83])
  have G1 : Lg (gH σ1 39) (τ1.1 583) M := hG.cp we.2.2.1 (fun j _ => by rw [eg 8 (by omega)]) (fun j _ _ => by rw [e83])
  obtain ⟨w', A', d, r, d1, d2, d3, d4, d5, d6, d7, d8, -, -, -⟩ := st_minute K1 (show 39 ≤ 39 by omega) (by omega : mm < 100) (by omega) R1 W1 O1 M1 (by omega) (τ1.1 570 41)
  rw [sH_gH] at d2
  have I1 : I τ1 := hIp.1 τ τ1 hIt t1 t2 t3
  have J1 : J (sH σ1 39 w') := hIp.2.1 _ _ (hIp.2.2 σ σ1 hJt s1 s2 s3)
  obtain ⟨⟨τ2, m1, m2⟩, -⟩ := m_goMinute hI hL (Or.inl rfl) K1.2.1 (by omega : mm < 101) (by omega : 1000 < 10000) W1.1 (Mt.rf I1) d3
  have aA := m2.A (Or.inl rfl)
  have ml2 : mLK τ1 τ2 := ⟨fun b hb => m2.arr (by omega) (by omega) (by omega) (by omega), fun j hj => m2.fld (Or.inl rfl) (by omega) (by omega)⟩
  have cl2 : cLK σ1 (sH σ1 39 w') := fun b hb => sH_lo (by omega)
  have lo2 : ∀ b, b = 5 ∨ b = 7 ∨ b = 9 ∨ b = 10 ∨ b = 34 → (sH σ1 39 w').1 b = σ1.1 b := fun b hb => sH_lo (by omega)
  have eg2 : ∀ c, c < 9 → gH (sH σ1 39 w') 39 c = w' c := gH_sH
  have we2 : WE w' (gH (sH σ1 39 w') 39) := ⟨fun c _ _ j _ => by rw [eg2 c (by omega)], by rw [eg2 0 (by omega)], by rw [eg2 0 (by omega)], by rw [eg2 0 (by omega)]⟩
  refine ⟨σ1, sH σ1 39 w', τ1, τ2, M + d, r1, d2, r2, m1, by omega, K1.cg cl2 ml2, ?_, ?_, ?_, m2.2, J1⟩
  · rw [aA]
    exact (HR.s (σ' := sH σ1 39 w') (⟨d4, d5, d6, d7⟩ : HR σ1 S P n (mm + 1) (M + d) w' A') lo2).cp we2 hS8 hP8 (fun _ _ => rfl)
  · rw [aA]
    exact (d8 G1).cp we2.2.2.1 (fun j _ => by rw [eg2 8 (by omega)]) (fun _ _ _ => rfl)
  · obtain ⟨p1, p2, p3, p4, p5, p6⟩ := P1
    refine ⟨?_, ?_, ?_, p4, p5, fun i hi => ?_⟩
    · rw [sH_lo (by omega)]; exact p1
    · rw [sH_lo (by omega)]; exact p2
    · rw [m2.fld (Or.inl rfl) (by omega) (by omega)]; exact p3
    · have old := p6 i hi
      have e90 : τ2.1 590 = τ1.1 590 := m2.arr (by omega) (by omega) (by omega) (by omega)
      generalize ((N + 1) % 40 + 40 - i) % 40 = x at old ⊢
      have ex : ∀ c, c < 9 → gH (sH σ1 39 w') (210 + 9 * x) c = gH σ1 (210 + 9 * x) c := fun c hc => sH_hi (by omega)
      exact old.cp hS8 hP8 lo2 ⟨fun c _ _ j _ => by rw [ex c (by omega)], by rw [ex 0 (by omega)], by rw [ex 0 (by omega)], by rw [ex 0 (by omega)]⟩ (fun j _ => by rw [ex 8 (by omega)]) (fun j hj => by rw [e90])
