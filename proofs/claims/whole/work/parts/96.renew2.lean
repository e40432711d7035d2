/-! likings in the class: laid out anew -/
section
variable {σ σ' : LH} {S P F hd sc E : Nat} {wn mn xn qn : Nat → Nat} {held : Option Nat} {CLs : Nat → CL}
theorem RR.fl {L : Nat → Nat → Nat → Int32} {m : Nat} (hR : RR σ S P L m) (hf : σ'.1 35 = σ.1 35) (ht : ∀ r, r ≠ m → ∀ p s, p < P → s < S → tbC σ' r p s = tbC σ r p s) : RR σ' S P L m := by
  refine ⟨fun j hj => by rw [hf]; exact hR.1 j hj, fun j hj => ?_⟩
  obtain ⟨r, h1, h2, h3⟩ := hR.2 j hj
  refine ⟨r, h1, by rw [hf]; exact h2, fun p s hp hs => ?_⟩
  rw [ht r (by omega) p s hp hs]
  exact h3 p s hp hs
theorem n_86 (hmn0 : ∀ s, s < S → mn s < 2 ^ 20) {rec55 : Int32 → Int32 → Int32 → LH → Option LH} {y2 y3 : Int32} {m : Nat} (hm : m < 100) (R : RC σ S P F wn mn xn qn) (H : HT σ hd sc held CLs) (hR : RR σ S P (Lf F wn mn xn qn held CLs) m) : ∃ σ', s_Likings_renew_86 hd rec55 y2 y3 (nI m) σ = rec55 y2 y3 (nI (m + 1)) σ' ∧ FR (wRn sc) σ σ' ∧ RR σ' S P (Lf F wn mn xn qn held CLs) (m + 1) := by
  obtain ⟨s1, e1, e2, e3, e4⟩ := c_fill hmn0 hm R H
  have sc1 := H.1
  have e35 : s1.1 35 = σ.1 35 := funext fun j => e2.1 35 j (by unfold wFl; omega)
  have R1 : RR s1 S P (Lf F wn mn xn qn held CLs) m := RR.fl hR e35 e4
  have st : ∀ v, FR (wRn sc) σ (stI s1 35 m v) := fun v => (wFl_rn e2).tr (FR.I (by unfold wRn; omega))
  unfold s_Likings_renew_86 s_Likings_renew_87
  rw [if_pos (show (0 : Int32) = 0 from rfl), e1]
  simp only [xb1]
  unfold s_Likings_renew_128 s_Likings_renew_129 s_Likings_renew_131
  by_cases q : m = 0
  · rw [if_pos (show nI m ≤ 0 by rw [q, nI_0]; exact Int32.le_refl _), if_pos (show (0 : Int32) = 0 from rfl)]
    obtain ⟨g1, g2⟩ := rn_set (hd := hd) (rec55 := rec55) (y2 := y2) (y3 := y3) R1 hm (Nat.le_refl m) e3
    exact ⟨_, g1, st _, g2⟩
  · obtain ⟨k, rfl⟩ : ∃ k, m = k + 1 := ⟨m - 1, by omega⟩
    obtain ⟨r, r1, r2, r3⟩ := R1.2 k (by omega)
    have ek : nI (k + 1) - 1 = nI k := nI_pred k
    obtain ⟨b, b1, b2⟩ := f_like (σ := s1) (r1 := k + 1) (r2 := r) hm (by omega) ((R.fr sc1 e2).1) R.2.1 ((R.fr sc1 e2).2.2.1) R.2.2.2.1
    rw [if_neg (show ¬ nI (k + 1) ≤ 0 from fun z => Int32.not_lt.mpr z (by rw [← nI_0]; exact nI_lt (by omega) (by omega))), ek, if_pos (ib_nI (show k < 100 by omega) (by omega)), nI_clamp (show k < 2 ^ 31 by omega), r2, b1]
    simp only [xb2]
    by_cases qb : b = 0
    · rw [if_pos qb, if_pos trivial]
      obtain ⟨g1, g2⟩ := rn_set (hd := hd) (rec55 := rec55) (y2 := y2) (y3 := y3) R1 hm (Nat.le_refl (k + 1)) e3
      exact ⟨_, g1, st _, g2⟩
    · rw [if_neg qb, if_neg (show ¬ (1 : Int32) = 0 by decide), if_pos (ib_nI (show k < 100 by omega) (by omega)), r2]
      obtain ⟨g1, g2⟩ := rn_set (hd := hd) (rec55 := rec55) (y2 := y2) (y3 := y3) R1 hm (show r ≤ k + 1 by omega) (fun p s hp hs => (b2 qb p s hp hs).symm.trans (e3 p s hp hs))
      exact ⟨_, g1, st _, g2⟩
theorem n_87 {rec55 : Int32 → Int32 → Int32 → LH → Option LH} {y2 y3 : Int32} {m : Nat} (hm : m < 100) (hm0 : 0 < m) (hb : BM held CLs y2) (hy : y2 = 0) (hF : m ≠ F) (hR : RR σ S P (Lf F wn mn xn qn held CLs) m) : ∃ σ', s_Likings_renew_87 hd rec55 y2 y3 (nI m) 1 σ = rec55 y2 y3 (nI (m + 1)) σ' ∧ FR (wRn sc) σ σ' ∧ RR σ' S P (Lf F wn mn xn qn held CLs) (m + 1) := by
  obtain ⟨k, rfl⟩ : ∃ k, m = k + 1 := ⟨m - 1, by omega⟩
  obtain ⟨r, r1, r2, r3⟩ := hR.2 k (by omega)
  have ek : nI (k + 1) - 1 = nI k := nI_pred k
  unfold s_Likings_renew_87 s_Likings_renew_131
  rw [if_neg (show ¬ (1 : Int32) = 0 by decide), if_neg (show ¬ (1 : Int32) = 0 by decide), ek, if_pos (ib_nI (show k < 100 by omega) (by omega)), nI_clamp (show k < 2 ^ 31 by omega), r2]
  obtain ⟨g1, g2⟩ := rn_set (hd := hd) (rec55 := rec55) (y2 := y2) (y3 := y3) hR hm (show r ≤ k + 1 by omega) (fun p s hp hs => (r3 p s hp hs).trans (Lf_same hb hy hm0 hF).symm)
  exact ⟨_, g1, FR.I (by unfold wRn; omega), g2⟩
theorem n_rows (hmn0 : ∀ s, s < S → mn s < 2 ^ 20) {y2 : Int32} (hE : E < 100) (hb : BM held CLs y2) : ∀ (r n m : Nat) (σ : LH), m + r = E + 1 → r < n → RC σ S P F wn mn xn qn → HT σ hd sc held CLs → RR σ S P (Lf F wn mn xn qn held CLs) m → ∃ σ', s_Likings_renew_55 hd n y2 (nI E) (nI m) σ = s_Likings_renew_166 hd FUEL (nI E) (nI E) σ' ∧ FR (wRn sc) σ σ' ∧ RR σ' S P (Lf F wn mn xn qn held CLs) (E + 1) := by
  intro r
  induction r with
  | zero =>
    intro n m σ hr hn R H hR
    obtain ⟨n, rfl⟩ : ∃ q, n = q + 1 := ⟨n - 1, by omega⟩
    obtain rfl : m = E + 1 := by omega
    refine ⟨σ, ?_, FR.rf, hR⟩
    rw [s_Likings_renew_55]
    unfold s_Likings_renew_55_b
    rw [if_pos (nI_lt (by omega) (by omega))]
  | succ r ih =>
    intro n m σ hr hn R H hR
    obtain ⟨n, rfl⟩ : ∃ q, n = q + 1 := ⟨n - 1, by omega⟩
    have A : ∃ σ', s_Likings_renew_86 hd (s_Likings_renew_55 hd n) y2 (nI E) (nI m) σ = s_Likings_renew_55 hd n y2 (nI E) (nI (m + 1)) σ' ∧ FR (wRn sc) σ σ' ∧ RR σ' S P (Lf F wn mn xn qn held CLs) (m + 1) := n_86 hmn0 (by omega) R H hR
    have B : ∃ σ', s_Likings_renew_55 hd (n + 1) y2 (nI E) (nI m) σ = s_Likings_renew_55 hd n y2 (nI E) (nI (m + 1)) σ' ∧ FR (wRn sc) σ σ' ∧ RR σ' S P (Lf F wn mn xn qn held CLs) (m + 1) := by
      rw [s_Likings_renew_55]
      unfold s_Likings_renew_55_b
      rw [if_neg (show ¬ nI E < nI m from Int32.not_lt.mpr (nI_le (by omega) (by omega)))]
      by_cases q0 : m = 0
      · rw [if_pos (show nI m ≤ 0 by rw [q0, nI_0]; exact Int32.le_refl _)]
        exact A
      · rw [if_neg (show ¬ nI m ≤ 0 from fun z => Int32.not_lt.mpr z (by rw [← nI_0]; exact nI_lt (by omega) (by omega)))]
        by_cases q1 : y2 = 0
        · rw [if_pos q1, R.2.2.2.2.1]
          by_cases q2 : m = F
          · rw [if_pos (by rw [q2])]
            exact A
          · rw [if_neg (fun z => q2 (nI_inj (by omega) (by have := R.2.2.2.2.2.1; omega) z))]
            exact n_87 (by omega) (by omega) hb q1 q2 hR
        · rw [if_neg q1]
          exact A
    obtain ⟨s1, e1, e2, e3⟩ := B
    obtain ⟨s2, g1, g2, g3⟩ := ih n (m + 1) s1 (by omega) (by omega) (R.fr2 H.1 e2) (H.fr2 e2) e3
    exact ⟨s2, e1.trans g1, e2.tr g2, g3⟩
/-- till when a row holds, from minute k on -/
def TI (σ : LH) (E k : Nat) : Prop := ∀ m, k ≤ m → m < E + 1 → ∃ t, t ≤ E + 1 ∧ σ.1 36 m = nI t ∧ m < t ∧ ∀ j, m ≤ j → j < t → σ.1 35 j = σ.1 35 m
def wTi (b j : Nat) : Prop := b = 36
theorem n_218 {rec166 : Int32 → Int32 → LH → Option LH} {y3 v : Int32} {k : Nat} (hk : k < 100) : s_Likings_renew_218 hd rec166 y3 (nI k) (nI k) v σ = rec166 y3 (nI k + (-1)) (stI σ 36 k v) := by
  unfold s_Likings_renew_218
  rw [if_pos (ib_nI hk (by omega)), nI_clamp (by omega)]
  rfl
theorem TI.st {k t : Nat} (h : TI σ E (k + 1)) (h1 : t ≤ E + 1) (h2 : k < t) (h3 : ∀ j, k ≤ j → j < t → σ.1 35 j = σ.1 35 k) : TI (stI σ 36 k (nI t)) E k := by
  intro m hm1 hm2
  rw [stI_e, stI_n (by omega)]
  by_cases q : m = k
  · rw [if_pos q]
    subst q
    exact ⟨t, h1, rfl, h2, h3⟩
  · rw [if_neg q]
    exact h m (by omega) hm2
theorem n_tills (hE : E < 100) : ∀ (k n : Nat) (σ : LH), k ≤ E + 1 → k < n → TI σ E k → (∀ j, j < 100 → ∃ r, r < 100 ∧ σ.1 35 j = nI r) → ∃ σ', s_Likings_renew_166 hd n (nI E) (nI k + (-1)) σ = some σ' ∧ FR wTi σ σ' ∧ TI σ' E 0 := by
  intro k
  induction k with
  | zero =>
    intro n σ hk hn hT hr
    obtain ⟨n, rfl⟩ : ∃ q, n = q + 1 := ⟨n - 1, by omega⟩
    refine ⟨σ, ?_, FR.rf, hT⟩
    rw [s_Likings_renew_166]
    unfold s_Likings_renew_166_b
    rw [if_pos (show nI 0 + -1 < 0 by decide)]
  | succ k ih =>
    intro n σ hk hn hT hr
    obtain ⟨n, rfl⟩ : ∃ q, n = q + 1 := ⟨n - 1, by omega⟩
    have fin : ∀ t : Nat, t ≤ E + 1 → k < t → (∀ j, k ≤ j → j < t → σ.1 35 j = σ.1 35 k) → ∃ σ', s_Likings_renew_218 hd (s_Likings_renew_166 hd n) (nI E) (nI k) (nI k) (nI t) σ = some σ' ∧ FR wTi σ σ' ∧ TI σ' E 0 := by
      intro t h1 h2 h3
      rw [n_218 (by omega)]
      obtain ⟨s2, g1, g2, g3⟩ := ih n (stI σ 36 k (nI t)) (by omega) (by omega) (hT.st h1 h2 h3) (fun j hj => by rw [stI_n (by omega)]; exact hr j hj)
      exact ⟨s2, g1, (FR.I (show wTi 36 k from rfl)).tr g2, g3⟩
    have one : ∃ σ', s_Likings_renew_214 hd (s_Likings_renew_166 hd n) (nI E) (nI k) (nI k) σ = some σ' ∧ FR wTi σ σ' ∧ TI σ' E 0 := by
      unfold s_Likings_renew_214
      rw [nI_1]
      exact fin (k + 1) (by omega) (by omega) (fun j h1 h2 => by rw [show j = k by omega])
    rw [nI_prd (show 0 < k + 1 by omega), Nat.add_sub_cancel, s_Likings_renew_166]
    unfold s_Likings_renew_166_b
    rw [if_neg (nI_pos (by omega))]
    by_cases q : E ≤ k
    · rw [if_pos (nI_le q (by omega))]
      exact one
    · rw [if_neg (nI_ge (by omega) (by omega)), nI_1, if_pos (ib_nI (show k + 1 < 100 by omega) (by omega)), if_pos (ib_nI (show k < 100 by omega) (by omega)), nI_clamp (show k < 2 ^ 31 by omega), nI_clamp (show k + 1 < 2 ^ 31 by omega)]
      by_cases q2 : σ.1 35 (k + 1) = σ.1 35 k
      · obtain ⟨t, t1, t2, t3, t4⟩ := hT (k + 1) (by omega) (by omega)
        rw [if_pos q2, t2, if_pos (ib_nI (show k + 1 < 100 by omega) (by omega))]
        refine fin t t1 (by omega) (fun j h1 h2 => ?_)
        by_cases q3 : j = k
        · rw [q3]
        · rw [t4 j (by omega) h2, q2]
      · rw [if_neg q2]
        exact one
def wRe (sc b j : Nat) : Prop := b = 34 ∨ b = 35 ∨ b = 36 ∨ b = 37 ∨ b = sc ∨ (b = 33 ∧ j = 5)
/-- the likings laid out, as the class keeps them -/
def LT (σ : LH) (S P E : Nat) (L : Nat → Nat → Nat → Int32) : Prop := TL σ (E + 1) ∧ ∀ m, m < E + 1 → ∃ r, r < 100 ∧ σ.1 35 m = nI r ∧ ∀ p s, p < P → s < S → tbC σ r p s = L m p s
theorem c_renew (hmn0 : ∀ s, s < S → mn s < 2 ^ 20) (hE : E < 100) (h15 : σ.1 4 15 = nI E) (R : RC σ S P F wn mn xn qn) (H : HT σ hd sc held CLs) (hr : ∀ j, j < 100 → ∃ r, r < 100 ∧ σ.1 35 j = nI r) : ∃ σ', s_Likings_renew hd σ = some σ' ∧ FR (wRe sc) σ σ' ∧ σ'.1 33 5 = σ.1 33 5 + 1 ∧ LT σ' S P E (Lf F wn mn xn qn held CLs) := by
  have sc1 := H.1
  obtain ⟨s0, h0⟩ : ∃ s0, s0 = stI σ 33 5 (σ.1 33 5 + 1) := ⟨_, rfl⟩
  have n0 : ∀ b, b ≠ 33 → s0.1 b = σ.1 b := fun b hb => by rw [h0, stI_n hb]
  have f0 : FR (wRe sc) σ s0 := by rw [h0]; exact FR.I (by unfold wRe; omega)
  have R0 : RC s0 S P F wn mn xn qn := by
    unfold RC at R ⊢
    rw [n0 4 (by omega), n0 5 (by omega), n0 6 (by omega), n0 7 (by omega), n0 9 (by omega)]
    exact R
  have H0 : HT s0 hd sc held CLs := by
    obtain ⟨h1, h2, h3⟩ := H
    refine ⟨h1, h2, ?_⟩
    rcases h3 with z | ⟨k, k1, k2, k3, k4, k5⟩
    · exact Or.inl z
    · refine Or.inr ⟨k, k1, k2, k3, k4, ?_⟩
      unfold TasteC at k5 ⊢
      rw [n0 hd (by omega), n0 (hd + 1) (by omega)]
      exact k5
  have E0 : s0.1 4 15 = nI E := by rw [n0 4 (by omega)]; exact h15
  have r0 : ∀ j, j < 100 → ∃ r, r < 100 ∧ s0.1 35 j = nI r := fun j hj => by rw [n0 35 (by omega)]; exact hr j hj
  have v0 : s0.1 33 5 = σ.1 33 5 + 1 := by rw [h0, stI_e, if_pos rfl]
  have main : ∀ y : Int32, BM held CLs y → ∃ σ', s_Likings_renew_26 hd y s0 = some σ' ∧ FR (wRe sc) σ σ' ∧ σ'.1 33 5 = σ.1 33 5 + 1 ∧ LT σ' S P E (Lf F wn mn xn qn held CLs) := by
    intro y hy
    obtain ⟨s1, e1, e2, e3⟩ := n_rows (hd := hd) (sc := sc) (E := E) hmn0 hE hy (E + 1) FUEL 0 s0 (by omega) (by unfold FUEL; omega) R0 H0 ⟨r0, fun j hj => by omega⟩
    obtain ⟨s2, g1, g2, g3⟩ := n_tills (hd := hd) hE (E + 1) FUEL s1 (by omega) (by unfold FUEL; omega) (fun m h1 h2 => by omega) e3.1
    rw [nI_prd (show 0 < E + 1 by omega), Nat.add_sub_cancel] at g1
    refine ⟨s2, ?_, f0.tr ?_, ?_, ⟨?_, ?_⟩, ?_⟩
    · unfold s_Likings_renew_26 s_Likings_renew_51
      rw [E0, if_neg (show ¬ (100 : Int32) ≤ nI E from Int32.not_le.mpr (nI_lt (b := 100) (by omega) (by omega))), ← nI_0, e1, g1]
    · exact ⟨fun b j q => (g2.1 b j (by unfold wTi; unfold wRe at q; omega)).trans (e2.1 b j (by unfold wRn; unfold wRe at q; omega)), g2.2.trans e2.2⟩
    · rw [g2.1 33 5 (by unfold wTi; omega), e2.1 33 5 (by unfold wRn; omega)]
      exact v0
    · intro m hm
      rw [g2.1 35 m (by unfold wTi; omega)]
      exact e3.1 m hm
    · intro m _ hm
      exact g3 m (by omega) hm
    · intro m hm
      obtain ⟨r, z1, z2, z3⟩ := e3.2 m hm
      refine ⟨r, by omega, by rw [g2.1 35 m (by unfold wTi; omega)]; exact z2, fun p s hp hs => ?_⟩
      show s2.1 34 _ = _
      rw [g2.1 34 _ (by unfold wTi; omega)]
      exact z3 p s hp hs
  unfold s_Likings_renew s_Likings_renew_25
  simp only [xl]
  rw [← h0]
  rcases H0.2.2 with ⟨z1, z2⟩ | ⟨h, z1, z2, z3, z4, z5⟩
  · rw [if_pos z2]
    exact main 0 (fun _ h e => by rw [z1] at e; cases e)
  · rw [if_neg (show ¬ hd = 0 by omega), if_pos (show ¬ hd = 0 by omega)]
    by_cases q : s0.1 hd 3 = 0
    · rw [if_pos q]
      refine main 0 (fun _ h' e hm => ?_)
      rw [z1] at e
      cases e
      rw [z5.2.2.2.2.2, if_pos hm] at q
      exact absurd q (by decide)
    · rw [if_neg q]
      exact main 1 (fun e => absurd e (by decide))
end
