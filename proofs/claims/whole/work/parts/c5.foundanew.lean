/-! been: the sets found anew, in the class -/
def fsC (b j : Nat) : Prop := (58 ≤ b ∧ b ≤ 80) ∨ (b = 81 ∧ (j = 12 ∨ j = 15 ∨ j = 16)) ∨ (85 ≤ b ∧ b < 195)
section
variable {I : LH → Prop} {σ τ σ' τ' σ0 τ0 : LH} {S P n0 n E mm M T C k s s' : Nat} {go who cm lv : Nat → Nat} {whr : Nat → Int32} {L : Nat → Nat → Nat → Int32} {ln : Nat → Nat → Nat → Nat} {qn sn : Nat → Nat}
theorem fs_all (X0 : QX I σ τ S P n0 n E go L ln qn sn mm M) (hT : T ≤ 8) (hwP : ∀ i, i < T → who i < P) (ht : TDc σ T who whr) (hl : ∀ g, g < n0 → τ.1 579 (3 * g + 1) = nI (lv g) ∧ lv g < 100) (h13 : ∀ g, g < n0 → σ.1 13 g = nI (lv g)) : ∃ σ' C cm, s_Branches_findSets_44 0 σ = some σ' ∧ LUq lv n0 mm 100 0 C cm ∧ (∀ b j, ¬ fsC b j → σ'.1 b j = σ.1 b j) ∧ σ'.2 = σ.2 ∧ σ'.1 81 15 = nI n ∧ σ'.1 81 16 = nI T ∧ WE (gH σ 39) (gH σ' 87) ∧ (∀ s, s < 1024 → EXk C cm 0 0 s → ∃ b, OUTs L τ S P n0 E mm go T who whr (τ.1 583) (nI s) b ∧ σ'.1 86 s = if b = true then 1 else 0) ∧ ∀ s, s < 1024 → ¬ EXk C cm 0 0 s → σ'.1 86 s = 0 := by
  have hS8 := X0.S8
  have hP8 := X0.P8
  have hE := X0.e100
  have hmE := X0.mE
  have hn : n0 ≤ 10 := X0.1.1.2.2.2.2.2.1
  have h4 : σ.1 4 2 = nI n0 := X0.1.1.2.2.2.2.1
  have h33 : σ.1 33 5 = nI n := X0.1.1.2.2.2.2.2.2.2.2.2
  obtain ⟨C, cm, σ1, u1, u2, u3, u4⟩ := lu_all (σ := σ) (lv := lv) hn (fun g hg => (hl g hg).2) (show mm < 100 by omega) X0.cm h4 h13
  obtain ⟨f', σ2, v1, v2, v3, v4, v5⟩ := c_clear 1024 FUEL 0 σ1 (by omega) (by unfold FUEL; omega)
  rw [nI_0] at v1
  have hC : C ≤ 10 := by have := u2.c10; omega
  have e2 : ∀ b, b ≠ 81 → b ≠ 85 → b ≠ 86 → σ2.1 b = σ.1 b := fun b q1 q2 q3 => (v2 b q3).trans (u4.1 b q1 q2)
  have f2 : FR bcC σ σ2 := ⟨fun b j q => by
    unfold bcC at q
    rw [e2 b (by omega) (by omega) (by omega)], v3.trans u4.2.2⟩
  have hb := h_beginAs (σ := σ2) (a := 96) (b := 39) (x := gH σ2 96) (y := gH σ2 39) (by omega) (fun c hc => rfl)
  rw [sH_gH] at hb
  have we : WE (gH σ2 39) (wBeg (gH σ2 96) (gH σ2 39)) := wBeg_e
  generalize wBeg (gH σ2 96) (gH σ2 39) = w at hb we
  have e39 : ∀ c, c < 9 → gH σ2 39 c = gH σ 39 c := fun c hc => e2 (39 + c) (by omega) (by omega) (by omega)
  have we0 : WE (gH σ 39) (gH σ2 39) := ⟨fun c _ _ j _ => by rw [e39 c (by omega)], by rw [e39 0 (by omega)], by rw [e39 0 (by omega)], by rw [e39 0 (by omega)]⟩
  have f3 : FR bcC σ2 (sH σ2 96 w) := FR.bH (by omega) (by omega)
  have e3 : ∀ b, b < 96 → (sH σ2 96 w).1 b = σ2.1 b := fun b hb => sH_lo hb
  have eg : ∀ c, c < 9 → gH (sH σ2 96 w) (96 + 9 * 0) c = w c := fun c hc => sH_in (h := 96) hc
  have wet : WE w (gH (sH σ2 96 w) (96 + 9 * 0)) := ⟨fun c _ _ j _ => by rw [eg c (by omega)], by rw [eg 0 (by omega)], by rw [eg 0 (by omega)], by rw [eg 0 (by omega)]⟩
  have t81 : (sH σ2 96 w).1 81 = σ1.1 81 := (e3 81 (by omega)).trans (v2 81 (by omega))
  have ch : CHk L σ τ S P n0 n E mm M T C go who cm lv whr 0 0 mm (sH σ2 96 w) := by
    refine ⟨f2.tr f3, by rw [e3 38 (by omega), e2 38 (by omega) (by omega) (by omega)]; exact X0.fin.2.1, ⟨by rw [t81]; exact u3.1, fun d hd => by rw [e3 85 (by omega), v2 85 (by omega)]; exact u3.2 d hd⟩, ⟨by rw [t81, u4.2.1 10 (by omega)]; exact ht.1, fun i hi => by rw [e3 83 (by omega), e3 84 (by omega), e2 83 (by omega) (by omega) (by omega), e2 84 (by omega) (by omega) (by omega)]; exact ht.2 i hi⟩, by omega, ⟨Nat.le_refl mm, hmE⟩, ((PBx.zero we0 hS8 hP8).we we hS8 hP8).we wet hS8 hP8, fun d _ hd => ⟨(u2.1 d hd).2.1, Nat.zero_testBit _⟩⟩
  obtain ⟨σ4, i1, i2, i3, i4⟩ := ch_rec X0 hT hwP hn hl h13 u2 C 0 RF 0 mm _ (by omega) (by unfold RF; omega) ch
  rw [nI_0] at i1
  have hb2 := h_beginAs (σ := stI σ4 38 2 1023) (a := 87) (b := 39) (x := gH (stI σ4 38 2 1023) 87) (y := gH (stI σ4 38 2 1023) 39) (by omega) (fun c hc => rfl)
  rw [sH_gH] at hb2
  have we5 : WE (gH (stI σ4 38 2 1023) 39) (wBeg (gH (stI σ4 38 2 1023) 87) (gH (stI σ4 38 2 1023) 39)) := wBeg_e
  generalize wBeg (gH (stI σ4 38 2 1023) 87) (gH (stI σ4 38 2 1023) 39) = w5 at hb2 we5
  have lo4 : ∀ b, b < 81 → b ≠ 38 → ¬ (58 ≤ b ∧ b ≤ 80) → σ4.1 b = σ.1 b := fun b b1 b2 b3 => by
    rw [i2.1.br2 (b := b) (fun j => by unfold bcC scC; omega), e3 b (by omega), e2 b (by omega) (by omega) (by omega)]
  have e38 : ∀ j, j ≠ 2 → σ4.1 38 j = σ.1 38 j := fun j hj => by rw [i2.2.2 j hj, e3 38 (by omega), e2 38 (by omega) (by omega) (by omega)]
  have e81 : ∀ j, j ≠ 12 → σ4.1 81 j = σ.1 81 j := fun j hj => by rw [i2.2.1 81 (by omega) (by omega) (by omega), t81, u4.2.1 j hj]
  have e84 : ∀ b, 82 ≤ b → b < 85 → σ4.1 b = σ.1 b := fun b b1 b2 => by rw [i2.2.1 b (by omega) (by omega) (by omega), e3 b (by omega), e2 b (by omega) (by omega) (by omega)]
  have ehi : ∀ b, 195 ≤ b → σ4.1 b = σ.1 b := fun b b1 => by rw [i2.1.br2 (b := b) (fun j => by unfold bcC scC; omega), sH_off (by omega), e2 b (by omega) (by omega) (by omega)]
  have x33 : (sH (stI σ4 38 2 1023) 87 w5).1 33 5 = nI n := by rw [sH_lo (by omega), stI_n (by omega), lo4 33 (by omega) (by omega) (by omega)]; exact h33
  have x10 : (stI (sH (stI σ4 38 2 1023) 87 w5) 81 15 (nI n)).1 81 10 = nI T := by rw [stI_e, if_neg (by omega), sH_lo (by omega), stI_n (by omega), e81 10 (by omega)]; exact ht.1
  have e86 : (stI (stI (sH (stI σ4 38 2 1023) 87 w5) 81 15 (nI n)) 81 16 (nI T)).1 86 = σ4.1 86 := by rw [stI_n (by omega), stI_n (by omega), sH_lo (by omega), stI_n (by omega)]
  refine ⟨stI (stI (sH (stI σ4 38 2 1023) 87 w5) 81 15 (nI n)) 81 16 (nI T), C, cm, ?_, u2, fun b j q => ?_, ?_, ?_, ?_, ?_, fun s hs hx => ?_, fun s hs hx => ?_⟩
  · unfold s_Branches_findSets_44
    rw [if_pos rfl, u1, xb1_so, v1, s_Branches_findSets_56]
    unfold s_Branches_findSets_56_b
    rw [if_pos (show (1024 : Int32) ≤ nI 1024 from Int32.le_refl _), if_pos (show ib 0 11 by decide), show 96 + 9 * Int32.toNatClampNeg 0 = 96 from rfl, xl_so, hb, xb1_so, i1, xb1_so, xl_so, hb2, xb1_so, xl_so, x33, xl_so, x10]
  · unfold fsC at q
    by_cases q81 : b = 81
    · subst q81
      rw [stI_e, if_neg (by omega), stI_e, if_neg (by omega), sH_lo (by omega), stI_n (by omega), e81 j (by omega)]
    · rw [stI_n q81, stI_n q81, sH_off (by omega)]
      by_cases q38 : b = 38
      · subst q38
        rw [stI_e]
        by_cases qj : j = 2
        · rw [if_pos qj, qj]; exact X0.fin.1.symm
        · rw [if_neg qj, e38 j qj]
      · rw [stI_n q38]
        by_cases qa : b < 81
        · rw [lo4 b qa q38 (by omega)]
        · by_cases qb : b < 85
          · rw [e84 b (by omega) qb]
          · rw [ehi b (by omega)]
  · show σ4.2 = σ.2
    exact (i2.1.2.trans rfl).trans f2.2
  · rw [stI_e, if_neg (by omega), stI_e, if_pos rfl]
  · rw [stI_e, if_pos rfl]
  · have ea : ∀ c, c < 9 → gH (stI (stI (sH (stI σ4 38 2 1023) 87 w5) 81 15 (nI n)) 81 16 (nI T)) 87 c = w5 c := fun c hc => by
      show (stI (stI (sH (stI σ4 38 2 1023) 87 w5) 81 15 (nI n)) 81 16 (nI T)).1 (87 + c) = _
      rw [stI_n (by omega), stI_n (by omega), sH_in hc]
    have eb : ∀ c, c < 9 → gH (stI σ4 38 2 1023) 39 c = gH σ 39 c := fun c hc => by
      show (stI σ4 38 2 1023).1 (39 + c) = σ.1 (39 + c)
      rw [stI_n (by omega), lo4 (39 + c) (by omega) (by omega) (by omega)]
    exact ⟨fun c c1 c2 j hj => by rw [ea c (by omega), ← eb c (by omega)]; exact we5.1 c c1 c2 j hj, by rw [ea 0 (by omega), ← eb 0 (by omega)]; exact we5.2.1, by rw [ea 0 (by omega), ← eb 0 (by omega)]; exact we5.2.2.1, by rw [ea 0 (by omega), ← eb 0 (by omega)]; exact we5.2.2.2⟩
  · rw [e86]
    exact i3 s hx
  · rw [e86, i4 s hx, e3 86 (by omega), v5 s (by omega) hs]
end
