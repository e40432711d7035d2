/-! been: all choices, in the class -/
theorem tb_or {s g j : Nat} : (s ||| 2 ^ g).testBit j = (s.testBit j || decide (g = j)) := by
  rw [Nat.testBit_or, Nat.testBit_two_pow]
theorem tb_eq {s s' : Nat} (h1 : s < 1024) (h2 : s' < 1024) (h : ∀ g, g < 10 → s'.testBit g = s.testBit g) : s' = s := by
  apply Nat.eq_of_testBit_eq
  intro i
  by_cases q : i < 10
  · exact h i q
  · have e : (2 : Nat) ^ 10 ≤ 2 ^ i := Nat.pow_le_pow_right (by omega) (by omega)
    rw [Nat.testBit_lt_two_pow (show s' < 2 ^ i by omega), Nat.testBit_lt_two_pow (show s < 2 ^ i by omega)]
/-- s' is s with some of those from k on -/
def EXk (C : Nat) (cm : Nat → Nat) (k s s' : Nat) : Prop := s' < 1024 ∧ ∀ g, g < 10 → (∀ d, k ≤ d → d < C → cm d ≠ g) → s'.testBit g = s.testBit g
theorem ag_add {τ : LH} {n0 a b s g : Nat} {lv : Nat → Nat} (hn : n0 ≤ 10) (hl : ∀ g, g < n0 → τ.1 579 (3 * g + 1) = nI (lv g) ∧ lv g < 100) (hs : s < 1024) (hg : g < 10) (hb : b ≤ lv g) (hb2 : b < 1000) : Ag τ n0 a b (nI s) (nI (s ||| 2 ^ g)) := by
  intro g' j h1 h2 h3 h4
  obtain ⟨l1, l2⟩ := hl g' h1
  rw [l1] at h4
  have e : lv g' = j := nI_ij (by omega) (by omega) h4
  have ne : ¬ g = g' := fun z => by
    rw [z] at hb
    omega
  rw [(bits_s hs (show g' < 10 by omega)).1, (bits_s (bits_s hs hg).2.2 (show g' < 10 by omega)).1, tb_or, decide_eq_false ne, Bool.or_false]
section
variable {I : LH → Prop} {σ τ σ' τ' σ0 τ0 : LH} {S P n0 n E mm M T C : Nat} {go who cm lv : Nat → Nat} {whr : Nat → Int32} {L : Nat → Nat → Nat → Int32} {ln : Nat → Nat → Nat → Nat} {qn sn : Nat → Nat}
/-- what is asked of a choice so far -/
def CHk (L : Nat → Nat → Nat → Int32) (σ0 τ0 : LH) (S P n0 n E mm M T C : Nat) (go who cm lv : Nat → Nat) (whr : Nat → Int32) (k s t : Nat) (σ : LH) : Prop := FR bcC σ0 σ ∧ σ.1 38 3 = -1 ∧ LSt σ C cm ∧ TDc σ T who whr ∧ s < 1024 ∧ (mm ≤ t ∧ t ≤ E) ∧ PBx L σ0 τ0 S P n n0 mm M go t (nI s) (gH σ (96 + 9 * k)) ∧ (∀ d, k ≤ d → d < C → t ≤ lv (cm d) ∧ s.testBit (cm d) = false)
/-- the halls below stand, and all but the fits -/
def OFk (k : Nat) (σ σ' : LH) : Prop := FR bcC σ σ' ∧ (∀ b, 81 ≤ b → b < 96 + 9 * k → b ≠ 86 → σ'.1 b = σ.1 b) ∧ (∀ j, j ≠ 2 → σ'.1 38 j = σ.1 38 j)
theorem OFk.tr {k : Nat} {σ'' : LH} (h : OFk k σ σ') (h' : OFk k σ' σ'') : OFk k σ σ'' := ⟨h.1.tr h'.1, fun b h1 h2 h3 => (h'.2.1 b h1 h2 h3).trans (h.2.1 b h1 h2 h3), fun j hj => (h'.2.2 j hj).trans (h.2.2 j hj)⟩
theorem OFk.lo {k k' : Nat} (h : OFk k' σ σ') (hk : k ≤ k') : OFk k σ σ' := ⟨h.1, fun b h1 h2 h3 => h.2.1 b h1 (by omega) h3, h.2.2⟩
theorem FR.bH {h : Nat} {w : Wd} (h1 : 96 ≤ h) (h2 : h + 9 ≤ 195) : FR bcC σ (sH σ h w) := FR.H (fun b j z1 z2 => by unfold bcC scC; omega)
theorem ch_leaf (X0 : QX I σ0 τ0 S P n0 n E go L ln qn sn mm M) (hT : T ≤ 8) (hwP : ∀ i, i < T → who i < P) (hC : C ≤ 10) {s t : Nat} {rf : Int32 → Int32 → LH → Option LH} (h : CHk L σ0 τ0 S P n0 n E mm M T C go who cm lv whr C s t σ) : ∃ σ', s_Branches_choose_b rf (nI C) (nI s) σ = some σ' ∧ OFk C σ σ' ∧ (∃ b, OUTs L τ0 S P n0 E mm go T who whr (τ0.1 583) (nI s) b ∧ σ'.1 86 s = if b = true then 1 else 0) ∧ ∀ s', s' ≠ s → σ'.1 86 s' = σ.1 86 s' := by
  obtain ⟨f1, h3, ⟨l1, l2⟩, ⟨t1, t2⟩, hs, ⟨ht1, ht2⟩, hB, -⟩ := h
  have hP8 := X0.P8
  have hE := X0.e100
  have fx : FR bcC σ (stI σ 38 2 (nI s)) := (FR.I (by unfold scC; omega) : FR scC σ (stI σ 38 2 (nI s))).bc
  have g0 : gH σ (96 + 9 * C) = gH (stI σ 38 2 (nI s)) (96 + 9 * C) := funext fun c => by
    show σ.1 (96 + 9 * C + c) = (stI σ 38 2 (nI s)).1 (96 + 9 * C + c)
    rw [stI_n (by omega)]
  obtain ⟨w2, r1, r2⟩ := hB.run (σ := stI σ 38 2 (nI s)) (h := 96 + 9 * C) (U := E) (Z := E) X0 (f1.tr fx) (by rw [stI_e, if_pos rfl]) (by rw [stI_e, if_neg (by omega)]; exact h3) (by omega) (by omega) (by omega) ht1 ht2
  rw [g0, sH_gH] at r1
  have fH : FR bcC (stI σ 38 2 (nI s)) (sH (stI σ 38 2 (nI s)) (96 + 9 * C) w2) := FR.bH (by omega) (by omega)
  have lo : ∀ b, b < 96 → (sH (stI σ 38 2 (nI s)) (96 + 9 * C) w2).1 b = (stI σ 38 2 (nI s)).1 b := fun b hb => sH_lo (by omega)
  have td : TDc (sH (stI σ 38 2 (nI s)) (96 + 9 * C) w2) T who whr := by
    unfold TDc
    rw [lo 81 (by omega), lo 83 (by omega), lo 84 (by omega), stI_n (by omega), stI_n (by omega), stI_n (by omega)]
    exact ⟨t1, t2⟩
  have tl := c_told (h := 96 + 9 * C) td hT (fun i hi => by have := hwP i hi; omega) T FUEL 0 (by omega) (by unfold FUEL; omega)
  rw [nI_0] at tl
  have w1 : (sH (stI σ 38 2 (nI s)) (96 + 9 * C) w2).1 (96 + 9 * C + 1) = w2 1 := sH_in (by omega)
  rw [w1] at tl
  refine ⟨stI (sH (stI σ 38 2 (nI s)) (96 + 9 * C) w2) 86 s (if tdR (w2 1) who whr T 0 = true then 1 else 0), ?_, ⟨(fx.tr fH).tr (FR.I (by unfold bcC; omega)), fun b h1 h2 h3 => ?_, fun j hj => ?_⟩, ⟨tdR (w2 1) who whr T 0, r2.out hwP X0.2.2.1, by rw [stI_e, if_pos rfl]⟩, fun s' hs' => ?_⟩
  · unfold s_Branches_choose_b s_Branches_choose_48
    rw [if_neg (show ¬ nI C < 0 from Int32.not_lt.mpr (nI_le (show 0 ≤ C by omega) (by omega) : nI 0 ≤ nI C)), if_neg (show ¬ (11 : Int32) ≤ nI C from nI_ge (b := 11) (by omega) (by omega)), if_neg (show ¬ nI s < 0 from Int32.not_lt.mpr (nI_le (show 0 ≤ s by omega) (by omega) : nI 0 ≤ nI s)), if_pos (show nI s < 1024 from (nI_ltI (a := s) (b := 1024) (by omega) (by omega)).mpr hs), if_pos (ib_nI (by omega) (by omega)), nI_clamp (show C < 2 ^ 31 by omega), xl_so, l1, if_pos (Int32.le_refl _), xl_so, stI_n (b := 4) (by omega), f1.br2 (b := 4) (fun j => by unfold bcC scC; omega), X0.cE, r1, xb1_so]
    unfold s_Branches_isAsTold
    rw [tl, xb2_so, if_pos (ib_nI hs (by omega)), nI_clamp (show s < 2 ^ 31 by omega), xl_so]
    rcases tdR (w2 1) who whr T 0 with _ | _
    · rfl
    · rfl
  · rw [stI_n h3, sH_off (by omega), stI_n (by omega)]
  · rw [stI_n (by omega), sH_lo (by omega), stI_e, if_neg hj]
  · rw [stI_e, if_neg hs', sH_lo (by omega), stI_n (by omega)]
end
