/-! text: the call -/
section
variable {V : LH → LH → Prop} {σ τ σ' τ' : LH} {S P F E n0 n cnt mm M k N c T : Nat} {wn mn xn qn sn go : Nat → Nat} {held : Option Nat} {Bt : Nat → Nat → Nat} {le : Nat → Nat} {CLs : Nat → CL} {ln : Nat → Nat → Nat → Nat} {R : RM} {w : Wd} {B : Nat → Nat} {cl : CL}
/-- the likings laid out anew for the taste that holds -/
theorem rnw {hd : Nat} (h7 : σ.1 1 7 = oI held) (h6 : σ.1 1 6 = nI cnt) (hc : cnt ≤ 4) (hh : ∀ h, held = some h → h < cnt) (hd0 : held = none → hd = 0) (hd1 : ∀ h, held = some h → hd = 195 + 3 * h) (hr : s_Likings_renew hd σ = some σ') : s_Main_renewLikings σ = some σ' := by
  unfold s_Main_renewLikings s_Main_renewLikings_34 s_Main_renewLikings_35 s_Main_renewLikings_57
  rw [h7, h6]
  cases held with
  | none =>
    have e : hd = 0 := hd0 rfl
    rw [e] at hr
    rw [show oI none = -1 from rfl, if_pos (show (-1 : Int32) < 0 by decide), if_pos rfl, hr]
    rfl
  | some v =>
    have hv := hh v rfl
    have e : hd = 195 + 3 * v := hd1 v rfl
    rw [e] at hr
    rw [show oI (some v) = nI v from rfl, if_neg (nI_pos (n := v) (by omega)), if_neg (show ¬ nI cnt ≤ nI v from nI_ge hv (by omega)), if_neg (show ¬ (5 : Int32) ≤ nI v from nI_ge (a := v) (b := 5) (by omega) (by omega)), if_neg (show ¬ (1 : Int32) = 0 by decide), if_pos (ib_nI (show v < 5 by omega) (by omega)), nI_clamp (show v < 2 ^ 31 by omega)]
    simp only [xl]
    rw [hr]
    rfl
/-- a room taken over, in the class -/
theorem c_take (h : NVp V σ τ S P F E n0 n cnt mm M k N wn mn xn qn sn go held Bt le CLs ln) {σ1 : LH} (f1 : FR (wRc 15) σ σ1) (tc : TT σ B T) (hB : RB R) (hw : whR R = true) (hp : pRoom B T (T + 1) 0 rmZ = .inr R) (hn1 : n + 1 < 2 ^ 20) : ∃ σ' w, s_Main_takeRoom σ1 = some (nI (R.1 1), σ') ∧ CRm σ' 4 R ∧ (∀ j, j ≠ 13 → j ≠ 16 → σ'.1 1 j = σ.1 1 j) ∧ σ'.1 1 13 = 0 ∧ σ'.1 1 16 = 0 ∧ σ'.1 2 1 = 0 ∧ σ'.1 38 = σ.1 38 ∧ σ'.1 33 5 = nI (n + 1) ∧ σ'.1 81 10 = 0 ∧ σ'.1 81 15 = σ.1 81 15 ∧ (∀ t, t < cnt → σ'.1 (195 + 3 * t) = σ.1 (195 + 3 * t) ∧ σ'.1 (195 + 3 * t + 1) = σ.1 (195 + 3 * t + 1)) ∧ (∀ c, c < 9 → gH σ' 39 c = w c) ∧ Rw (R.1 0) (R.1 1) w (AAR (R.1 0) (fun p => R.2 1 p 0) (fun p => R.2 1 p 3) (R.1 1)) ∧ w 0 8 = 0 ∧ w 0 10 = -1 ∧ LT σ' (R.1 0) (R.1 1) (R.2 3 0 1) (Lf (R.2 3 0 0) (fun s => R.2 0 s 0) (fun s => R.2 0 s 1) (fun s => R.2 0 s 2) (fun p => R.2 1 p 1) held CLs) := by
  obtain ⟨hw1, hw2, hw3, hw4⟩ := whR_iff.mp hw
  obtain ⟨o1, o2, o3, o4, o5, ⟨o61, o62, o63⟩, o7, -⟩ := id h.2.2.2
  have hc4 : cnt ≤ 4 := o1.2.2.2.1
  have hh := o1.2.2.2.2.2.2.1
  have t1 := tc.rd f1 (show 4 ≤ 15 by omega)
  have r4 := r_read (rm := 4) t1 (by omega) (by omega)
  rw [hp] at r4
  obtain ⟨σ2, e2, f2, c2⟩ := r4
  obtain ⟨σ3, hσ3⟩ : ∃ s, s = stI (stI (stI (stI σ2 2 1 0) 1 13 0) 1 16 0) 81 10 0 := ⟨_, rfl⟩
  have n3 : ∀ b, b ≠ 1 → b ≠ 2 → b ≠ 81 → σ3.1 b = σ2.1 b := fun b h1 h2 h3 => by rw [hσ3, stI_n h3, stI_n h1, stI_n h1, stI_n h2]
  have c3 : CRm σ3 4 R := c2.fr (fun b h1 h2 => n3 b (by omega) (by omega) (by omega))
  have hS8 : R.1 0 ≤ 8 := (c3.1 0 (by omega)).2
  have hP8 : R.1 1 ≤ 8 := (c3.1 1 (by omega)).2
  have b8 : ∀ p, p < R.1 1 → R.2 1 p 0 ≤ 8 := fun p hp => hB.b hp
  obtain ⟨w, eo, hR, w8, w10⟩ := h_open (σ := σ3) (S := R.1 0) (P := R.1 1) (b := fun p => R.2 1 p 0) (k := fun p => R.2 1 p 3) (c3.1 0 (by omega)).1 (c3.1 1 (by omega)).1 hS8 hP8 (fun p hp => ⟨c3.2.1 1 (by omega) p hp 0 (show 0 < 4 by omega), b8 p hp⟩) (fun p hp => c3.2.1 1 (by omega) p hp 3 (show 3 < 4 by omega)) (fun p hp hb q hq => by
    rcases hw3 p hp with x | x
    · have hb' : R.2 1 p 0 < R.1 0 := hb
      omega
    · exact x.2 q hq)
  have c4 : CRm (sH σ3 39 w) 4 R := c3.fr (fun b h1 h2 => sH_lo (by omega))
  -- what stood before
  have old : ∀ b, (b = 35 ∨ b = 33 ∨ b = 38 ∨ (195 ≤ b ∧ b < 210)) → (sH σ3 39 w).1 b = σ.1 b := fun b hb => by
    have e1 : (sH σ3 39 w).1 b = σ3.1 b := by
      by_cases q : b < 39
      · exact sH_lo q
      · exact sH_hi (by omega)
    rw [e1, n3 b (by omega) (by omega) (by omega)]
    funext j
    rw [f2.1 b j (by unfold wRc; omega), f1.1 b j (by unfold wRc; omega)]
  have old1 : ∀ j, j ≠ 13 → j ≠ 16 → (sH σ3 39 w).1 1 j = σ.1 1 j := fun j h1 h2 => by
    rw [sH_lo (by omega), hσ3, stI_n (by omega), stI_e, if_neg h2, stI_e, if_neg h1, stI_n (by omega), f2.1 1 j (by unfold wRc; omega), f1.1 1 j (by unfold wRc; omega)]
  -- its likings
  have main : ∀ hd sc, HT (sH σ3 39 w) hd sc held CLs → (held = none → hd = 0) → (∀ h, held = some h → hd = 195 + 3 * h) → (∃ t, t < 5 ∧ sc = 195 + 3 * t + 2) → ∃ σ', s_Main_renewLikings (sH σ3 39 w) = some σ' ∧ FR (wRe sc) (sH σ3 39 w) σ' ∧ σ'.1 33 5 = (sH σ3 39 w).1 33 5 + 1 ∧ LT σ' (R.1 0) (R.1 1) (R.2 3 0 1) (Lf (R.2 3 0 0) (fun s => R.2 0 s 0) (fun s => R.2 0 s 1) (fun s => R.2 0 s 2) (fun p => R.2 1 p 1) held CLs) := by
    intro hd sc hH h0 h1 hsc
    have bS : ∀ s, s < R.1 0 → R.2 0 s 1 ≤ 99 := fun s hs => (hB 0 (by omega) s (Or.inl hs) 1 (show 1 < 3 by omega)).2
    have bF : R.2 3 0 0 ≤ 99 := (hB 3 (by omega) 0 (Or.inr ⟨rfl, rfl⟩) 0 (show 0 < 2 by omega)).2
    have bE : R.2 3 0 1 ≤ 99 := (hB 3 (by omega) 0 (Or.inr ⟨rfl, rfl⟩) 1 (show 1 < 2 by omega)).2
    have RCn : RC (sH σ3 39 w) (R.1 0) (R.1 1) (R.2 3 0 0) (fun s => R.2 0 s 0) (fun s => R.2 0 s 1) (fun s => R.2 0 s 2) (fun p => R.2 1 p 1) := ⟨(c4.1 0 (by omega)).1, hS8, (c4.1 1 (by omega)).1, hP8, c4.2.2.1, by omega, fun s hs => ⟨c4.2.1 0 (by omega) s hs 0 (show 0 < 3 by omega), c4.2.1 0 (by omega) s hs 1 (show 1 < 3 by omega), c4.2.1 0 (by omega) s hs 2 (show 2 < 3 by omega)⟩, fun p hp => c4.2.1 1 (by omega) p hp 1 (show 1 < 4 by omega)⟩
    have mn0 : ∀ s, s < R.1 0 → (fun s => R.2 0 s 1) s < 2 ^ 20 := fun s hs => by have := bS s hs; simp only; omega
    obtain ⟨σ', r1, r2, r3, r4⟩ := c_renew (σ := sH σ3 39 w) (hd := hd) (sc := sc) (E := R.2 3 0 1) mn0 (by omega) c4.2.2.2 RCn hH (fun j hj => by rw [old 35 (by omega)]; exact h.1.2.1.1 j hj)
    exact ⟨σ', rnw (by rw [old1 7 (by omega) (by omega)]; exact o7) (by rw [old1 6 (by omega) (by omega)]; exact o61) hc4 hh h0 h1 r1, r2, r3, r4⟩
  have fin : ∃ sc σ', (∃ t, t < 5 ∧ sc = 195 + 3 * t + 2) ∧ s_Main_renewLikings (sH σ3 39 w) = some σ' ∧ FR (wRe sc) (sH σ3 39 w) σ' ∧ σ'.1 33 5 = (sH σ3 39 w).1 33 5 + 1 ∧ LT σ' (R.1 0) (R.1 1) (R.2 3 0 1) (Lf (R.2 3 0 0) (fun s => R.2 0 s 0) (fun s => R.2 0 s 1) (fun s => R.2 0 s 2) (fun p => R.2 1 p 1) held CLs) := by
    cases hq : held with
    | none =>
      have := main 0 197 ⟨by omega, by omega, Or.inl ⟨hq, rfl⟩⟩ (fun _ => rfl) (fun h' z => by rw [hq] at z; cases z) ⟨0, by omega, by omega⟩
      rw [hq] at this
      obtain ⟨σ', x⟩ := this
      exact ⟨197, σ', ⟨0, by omega, by omega⟩, x⟩
    | some v =>
      have hv := hh v hq
      have hT : TasteC (sH σ3 39 w) (195 + 3 * v) (CLs v) := by
        have z := o63 v hv
        unfold TasteC at z ⊢
        rw [old (195 + 3 * v) (by omega), old (195 + 3 * v + 1) (by omega)]
        exact z
      have := main (195 + 3 * v) (195 + 3 * v + 2) ⟨by omega, by omega, Or.inr ⟨v, hq, by omega, rfl, rfl, hT⟩⟩ (fun z => by rw [hq] at z; cases z) (fun h' z => by rw [hq] at z; cases z; rfl) ⟨v, by omega, rfl⟩
      rw [hq] at this
      obtain ⟨σ', x⟩ := this
      exact ⟨_, σ', ⟨v, by omega, rfl⟩, x⟩
  obtain ⟨sc, σ', ⟨t0, ht0, hsc⟩, g1, g2, g3, g4⟩ := fin
  have keep : ∀ b, b ≠ 33 → (b < 34 ∨ 38 ≤ b) → (b < 195 ∨ 210 ≤ b) → σ'.1 b = (sH σ3 39 w).1 b := fun b h0 h1 h2 => funext fun j => g2.1 b j (by unfold wRe; omega)
  have c5 : CRm σ' 4 R := c4.fr (fun b h1 h2 => keep b (by omega) (by omega) (by omega))
  refine ⟨σ', w, ?_, c5, fun j h1 h2 => ?_, ?_, ?_, ?_, ?_, ?_, ?_, ?_, fun t ht => ⟨?_, ?_⟩, fun c hc => ?_, hR, w8, w10, g4⟩
  · unfold s_Main_takeRoom
    rw [e2]
    simp only [xb2, xl]
    rw [← hσ3, eo]
    simp only [xb1]
    rw [g1]
    simp only
    rw [(c5.1 1 (by omega)).1]
  · rw [keep 1 (by omega) (by omega) (by omega), old1 j h1 h2]
  · rw [keep 1 (by omega) (by omega) (by omega), sH_lo (by omega), hσ3, stI_n (by omega), stI_e, if_neg (by omega), stI_e, if_pos rfl]
  · rw [keep 1 (by omega) (by omega) (by omega), sH_lo (by omega), hσ3, stI_n (by omega), stI_e, if_pos rfl]
  · rw [keep 2 (by omega) (by omega) (by omega), sH_lo (by omega), hσ3, stI_n (by omega), stI_n (by omega), stI_n (by omega), stI_e, if_pos rfl]
  · rw [keep 38 (by omega) (by omega) (by omega), old 38 (by omega)]
  · rw [g3, old 33 (by omega), h.b1, nI_1]
  · rw [keep 81 (by omega) (by omega) (by omega), sH_hi (by omega), hσ3, stI_e, if_pos rfl]
  · rw [keep 81 (by omega) (by omega) (by omega), sH_hi (by omega), hσ3, stI_e, if_neg (by omega), stI_n (by omega), stI_n (by omega), stI_n (by omega), f2.1 81 15 (by unfold wRc; omega), f1.1 81 15 (by unfold wRc; omega)]
  · funext j
    rw [g2.1 _ j (by unfold wRe; omega), old _ (by omega)]
  · funext j
    rw [g2.1 _ j (by unfold wRe; omega), old _ (by omega)]
  · show σ'.1 (39 + c) = w c
    rw [keep (39 + c) (by omega) (by omega) (by omega), sH_in hc]
/-- a room taken over, in the model -/
theorem m_take {p0 : Int32} (hR : MRm τ R) (hB : RB R) (hw : whR R = true) : ∃ τ', s_Model_text_141 p0 FUEL 0 (stI (stI (stI (stI τ 570 6 0) 570 26 (τ.1 570 29)) 570 27 (τ.1 570 30)) 570 28 (τ.1 570 31)) = some (nI (R.1 1), τ') ∧ (∀ j, ¬ (j = 6 ∨ j = 26 ∨ j = 27 ∨ j = 28 ∨ j = 46 ∨ j = 57 ∨ j = 59) → τ'.1 570 j = τ.1 570 j) ∧ τ'.1 570 6 = 0 ∧ τ'.1 570 46 = 0 ∧ τ'.1 570 57 = 0 ∧ τ'.1 570 59 = 0 ∧ τ'.1 570 26 = nI (R.1 0) ∧ τ'.1 570 27 = nI (R.1 1) ∧ τ'.1 570 28 = nI (R.1 2) ∧ (∀ s i, s < R.1 0 → i < 3 → τ'.1 575 (3 * s + i) = nI (R.2 0 s i)) ∧ (∀ s i, s < R.1 1 → i < 4 → τ'.1 577 (4 * s + i) = nI (R.2 1 s i)) ∧ (∀ s i, s < R.1 2 → i < 3 → τ'.1 579 (3 * s + i) = nI (R.2 2 s i)) ∧ (∀ i, i < 2 → τ'.1 581 i = nI (R.2 3 0 i)) ∧ (∀ j, j < 50 → ((∃ p, p < R.1 1 ∧ 4 * p ≤ j ∧ j < 4 * p + 4) ∨ 32 ≤ j) → τ'.1 583 j = AAR (R.1 0) (fun p => R.2 1 p 0) (fun p => R.2 1 p 3) (R.1 1) j) ∧ (∀ b, b ≠ 570 → b ≠ 575 → b ≠ 577 → b ≠ 579 → b ≠ 581 → b ≠ 583 → τ'.1 b = τ.1 b) ∧ τ'.2 = τ.2 := by
  obtain ⟨hw1, hw2, hw3, hw4⟩ := whR_iff.mp hw
  have hS8 : R.1 0 ≤ 8 := (hR 0 (by omega)).2.1
  have hP8 : R.1 1 ≤ 8 := (hR 1 (by omega)).2.1
  have hG10 : R.1 2 ≤ 10 := (hR 2 (by omega)).2.1
  have v0 : τ.1 570 29 = nI (R.1 0) := (hR 0 (by omega)).1
  have v1 : τ.1 570 30 = nI (R.1 1) := (hR 1 (by omega)).1
  have v2 : τ.1 570 31 = nI (R.1 2) := (hR 2 (by omega)).1
  obtain ⟨τ0, hτ0⟩ : ∃ s, s = stI (stI (stI (stI τ 570 6 0) 570 26 (τ.1 570 29)) 570 27 (τ.1 570 30)) 570 28 (τ.1 570 31) := ⟨_, rfl⟩
  rw [← hτ0]
  have n0 : ∀ b, b ≠ 570 → τ0.1 b = τ.1 b := fun b h => by rw [hτ0, stI_n h, stI_n h, stI_n h, stI_n h]
  have z27 : τ0.1 570 27 = nI (R.1 1) := by rw [hτ0, stI_570, if_neg (by omega), stI_570, if_pos rfl]; exact v1
  obtain ⟨F1, -, a1, e1⟩ := cp141 (p0 := p0) 24 FUEL 0 τ0 (by omega) (by unfold FUEL; omega)
  obtain ⟨F2, -, a2, e2⟩ := cp167 (p0 := p0) 32 FUEL 0 (stF τ0 575 F1) (by omega) (by unfold FUEL; omega)
  obtain ⟨F3, -, a3, e3⟩ := cp193 (p0 := p0) 30 FUEL 0 (stF (stF τ0 575 F1) 577 F2) (by omega) (by unfold FUEL; omega)
  obtain ⟨F4, -, a4, e4⟩ := cp219 (p0 := p0) 2 FUEL 0 (stF (stF (stF τ0 575 F1) 577 F2) 579 F3) (by omega) (by unfold FUEL; omega)
  obtain ⟨τ4, hτ4⟩ : ∃ s, s = stF (stF (stF (stF τ0 575 F1) 577 F2) 579 F3) 581 F4 := ⟨_, rfl⟩
  rw [← hτ4] at e4
  have n4 : ∀ b, b ≠ 575 → b ≠ 577 → b ≠ 579 → b ≠ 581 → τ4.1 b = τ0.1 b := fun b h1 h2 h3 h4 => by rw [hτ4, stF_n h4, stF_n h3, stF_n h2, stF_n h1]
  have q75 : τ4.1 575 = F1 := by rw [hτ4, stF_n (by omega), stF_n (by omega), stF_n (by omega), stF_s]
  have q77 : τ4.1 577 = F2 := by rw [hτ4, stF_n (by omega), stF_n (by omega), stF_s]
  have q79 : τ4.1 579 = F3 := by rw [hτ4, stF_n (by omega), stF_s]
  have q81 : τ4.1 581 = F4 := by rw [hτ4, stF_s]
  have w75 : ∀ s i, s < R.1 0 → i < 3 → F1 (3 * s + i) = nI (R.2 0 s i) := fun s i hs hi => by
    rw [a1 _ (by omega) (by omega), n0 576 (by omega)]
    exact (hR 0 (by omega)).2.2 s i (Or.inl hs) hi
  have w77 : ∀ s i, s < R.1 1 → i < 4 → F2 (4 * s + i) = nI (R.2 1 s i) := fun s i hs hi => by
    rw [a2 _ (by omega) (by omega), stF_n (by omega), n0 578 (by omega)]
    exact (hR 1 (by omega)).2.2 s i (Or.inl hs) hi
  have w79 : ∀ s i, s < R.1 2 → i < 3 → F3 (3 * s + i) = nI (R.2 2 s i) := fun s i hs hi => by
    rw [a3 _ (by omega) (by omega), stF_n (by omega), stF_n (by omega), n0 580 (by omega)]
    exact (hR 2 (by omega)).2.2 s i (Or.inl hs) hi
  have w81 : ∀ i, i < 2 → F4 i = nI (R.2 3 0 i) := fun i hi => by
    rw [a4 _ (by omega) (by omega), stF_n (by omega), stF_n (by omega), stF_n (by omega), n0 582 (by omega)]
    have := (hR 3 (by omega)).2.2 0 i (Or.inr ⟨rfl, rfl⟩) hi
    rw [show nKR 3 * 0 + i = i by rw [Nat.mul_zero, Nat.zero_add]] at this
    exact this
  obtain ⟨F5, -, a5, e5⟩ := cp244 (p0 := p0) 290 FUEL 0 τ4 (by omega) (by unfold FUEL; omega)
  obtain ⟨F6, a6, b6, e6⟩ := cp266 (p0 := p0) (P := R.1 1) (b := fun p => R.2 1 p 0) (k := fun p => R.2 1 p 3) hP8 (fun p hp => hB.b hp) (R.1 1) FUEL 0 (stF τ4 583 F5) (by omega) (by unfold FUEL; omega) (by rw [stF_n (by omega), n4 570 (by omega) (by omega) (by omega) (by omega)]; exact z27) (fun q hq => by
    rw [stF_n (by omega), q77]
    exact ⟨w77 q 0 hq (by omega), w77 q 3 hq (by omega)⟩)
  rw [stF_F] at e6
  obtain ⟨F7, a7, b7, e7⟩ := cp346 (p0 := p0) 16 FUEL 0 (stF τ4 583 F6) (by omega) (by unfold FUEL; omega)
  rw [nI_0] at e1 e2 e3 e4 e5 e6 e7
  rw [stF_F] at e7
  have r27 : (stF τ4 583 F7).1 570 27 = nI (R.1 1) := by rw [stF_n (by omega), n4 570 (by omega) (by omega) (by omega) (by omega)]; exact z27
  rw [r27] at e7
  obtain ⟨τ5, hτ5⟩ : ∃ s, s = stI (stI (stI (stF τ4 583 F7) 570 57 0) 570 46 0) 570 59 0 := ⟨_, rfl⟩
  rw [← hτ5] at e7
  have n5 : ∀ b, b ≠ 570 → b ≠ 583 → τ5.1 b = τ4.1 b := fun b h1 h2 => by rw [hτ5, stI_n h1, stI_n h1, stI_n h1, stF_n h2]
  have m5 : ∀ j, j ≠ 57 → j ≠ 46 → j ≠ 59 → τ5.1 570 j = τ0.1 570 j := fun j h1 h2 h3 => by rw [hτ5, stI_570, if_neg h3, stI_570, if_neg h2, stI_570, if_neg h1, stF_n (by omega), n4 570 (by omega) (by omega) (by omega) (by omega)]
  have q83 : τ5.1 583 = F7 := by rw [hτ5, stI_n (by omega), stI_n (by omega), stI_n (by omega), stF_s]
  refine ⟨τ5, e1.trans (e2.trans (e3.trans (e4.trans (e5.trans (e6.trans e7))))), fun j hj => ?_, ?_, ?_, ?_, ?_, ?_, ?_, ?_, fun s i hs hi => ?_, fun s i hs hi => ?_, fun s i hs hi => ?_, fun i hi => ?_, fun j hj hc => ?_, fun b h1 h2 h3 h4 h5 h6 => ?_, ?_⟩
  · rw [m5 j (by omega) (by omega) (by omega), hτ0, stI_570, if_neg (by omega), stI_570, if_neg (by omega), stI_570, if_neg (by omega), stI_570, if_neg (by omega)]
  · rw [m5 6 (by omega) (by omega) (by omega), hτ0, stI_570, if_neg (by omega), stI_570, if_neg (by omega), stI_570, if_neg (by omega), stI_570, if_pos rfl]
  · rw [hτ5, stI_570, if_neg (by omega), stI_570, if_pos rfl]
  · rw [hτ5, stI_570, if_neg (by omega), stI_570, if_neg (by omega), stI_570, if_pos rfl]
  · rw [hτ5, stI_570, if_pos rfl]
  · rw [m5 26 (by omega) (by omega) (by omega), hτ0, stI_570, if_neg (by omega), stI_570, if_neg (by omega), stI_570, if_pos rfl]; exact v0
  · rw [m5 27 (by omega) (by omega) (by omega)]; exact z27
  · rw [m5 28 (by omega) (by omega) (by omega), hτ0, stI_570, if_pos rfl]; exact v2
  · rw [n5 575 (by omega) (by omega), q75]; exact w75 s i hs hi
  · rw [n5 577 (by omega) (by omega), q77]; exact w77 s i hs hi
  · rw [n5 579 (by omega) (by omega), q79]; exact w79 s i hs hi
  · rw [n5 581 (by omega) (by omega), q81]; exact w81 i hi
  · rw [q83]
    have k6 : ∀ j, (j < 32 ∨ 48 ≤ j) → F7 j = F6 j := fun j h => by
      rw [a7 j (by omega), stF_s]
    have k5 : ∀ j, j < 290 → (4 * R.1 1 ≤ j ∨ j % 4 = 3) → F6 j = 0 := fun j h h2 => by
      rw [a6 j (by omega), stF_s, a5 j (by omega) h]
    rcases hc with ⟨p, p1, p2, p3⟩ | hc
    · obtain ⟨x1, x2, x3⟩ := b6 p (by omega) p1
      rw [k6 j (by omega)]
      rcases (show j = 4 * p ∨ j = 4 * p + 1 ∨ j = 4 * p + 2 ∨ j = 4 * p + 3 by omega) with y | y | y | y
      · rw [y, x1, AAR_0 (by omega)]
        have o := hw3 p p1
        rcases o with o | o
        · rw [if_pos o, if_neg (by omega)]
        · rw [if_neg (by omega), if_pos ⟨p1, o.1⟩]
      · rw [y, x2, AAR_1 (by omega)]
      · rw [y, x3, AAR_2 (by omega)]
      · rw [y, k5 _ (by omega) (by omega), AAR_3 (by omega)]
    · by_cases y : j < 48
      · rw [b7 j (by omega) y, AAR_s hc y]
      · rw [k6 j (by omega), k5 j (by omega) (by omega), AAR_m (by omega)]
  · rw [n5 b h1 h6, n4 b h2 h3 h4 h5, n0 b h1]
  · rw [hτ5]
    show τ4.2 = _
    rw [hτ4]
    show τ0.2 = _
    rw [hτ0]
    rfl
end
