/-! been: found anew and kept; found before and still so -/
section
variable {I : LH → Prop} {σ τ σ' τ' : LH} {S P n0 n E mm M T : Nat} {go go' who lv : Nat → Nat} {whr : Nat → Int32} {L L' : Nat → Nat → Nat → Int32} {ln ln' : Nat → Nat → Nat → Nat} {qn sn : Nat → Nat}
theorem QX.cgL (X : QX I σ τ S P n0 n E go L ln qn sn mm M) (h12 : ∀ g, g < n0 → σ.1 12 g = nI (go' g) ∧ go' g < P) (hT' : ∀ m, m < E + 1 → ∃ r, r < 100 ∧ σ.1 35 m = nI r ∧ ∀ p s, p < P → s < S → tbC σ r p s = L' m p s) (hl' : ∀ m, m < 100 → LKr (L' m) (ln' m) S P) : QX I σ τ S P n0 n E go' L' ln' qn sn mm M := by
  obtain ⟨⟨C, G, F, hGL, hEL, hq, hs, hT0, hl0, hn⟩, rest⟩ := X
  obtain ⟨c1, c2, c3, c4, c5, c6, c7, c8, c9, c10⟩ := C
  obtain ⟨g1, g2, g3, g4, g5, g6, g7, g8⟩ := G
  refine ⟨⟨⟨c1, c2, c3, c4, c5, c6, h12, c8, c9, c10⟩, ⟨g1, g2, g3, g4, g5, g6, fun g hg => ⟨?_, (h12 g hg).2⟩, g8⟩, F, hGL, hEL, hq, hs, hT', hl', hn⟩, rest⟩
  have e : go g = go' g := nI_ij (by have := (c7 g hg).2; omega) (by have := (h12 g hg).2; omega) ((c7 g hg).1.symm.trans (h12 g hg).1)
  rw [(g7 g hg).1, e]
theorem fit_of (X : QX I σ τ S P n0 n E go L ln qn sn mm M) (hT : T ≤ 8) (hwP : ∀ i, i < T → who i < P) (ht : TDc σ T who whr) (h13 : ∀ g, g < n0 → σ.1 13 g = nI (lv g) ∧ lv g < 100) : ∃ σ', s_Branches_findSets_44 0 σ = some σ' ∧ (∀ b j, ¬ fsC b j → σ'.1 b j = σ.1 b j) ∧ σ'.2 = σ.2 ∧ σ'.1 81 15 = nI n ∧ σ'.1 81 16 = nI T ∧ WE (gH σ 39) (gH σ' 87) ∧ FITc L τ S P n0 E mm T go who lv whr (τ.1 583) (σ'.1 86) := by
  have hn : n0 ≤ 10 := X.1.1.2.2.2.2.2.1
  have hl : ∀ g, g < n0 → τ.1 579 (3 * g + 1) = nI (lv g) ∧ lv g < 100 := fun g hg => ⟨(X.1.2.2.2.1 g hg).1.symm.trans (h13 g hg).1, (h13 g hg).2⟩
  obtain ⟨σ', C, cm, e1, hQ, fr, h2, h15, h16, we, f1, f2⟩ := fs_all X hT hwP ht hl (fun g hg => (h13 g hg).1)
  exact ⟨σ', e1, fr, h2, h15, h16, we, fun s hs => ⟨fun z => f1 s hs ((exk_mk hn (fun g hg => (hl g hg).2) hQ hs).mpr z), fun z => f2 s hs (fun w => z ((exk_mk hn (fun g hg => (hl g hg).2) hQ hs).mp w))⟩⟩
theorem st_new (X : QX I σ τ S P n0 n E go L ln qn sn mm M) (hT : T ≤ 8) (hwP : ∀ i, i < T → who i < P) (ht : TDc σ T who whr) (h13 : ∀ g, g < n0 → σ.1 13 g = nI (lv g) ∧ lv g < 100) : ∃ σ', s_Branches_findSets_44 0 σ = some σ' ∧ (∀ b j, ¬ fsC b j → σ'.1 b j = σ.1 b j) ∧ σ'.2 = σ.2 ∧ FITc L τ S P n0 E mm T go who lv whr (τ.1 583) (σ'.1 86) ∧ Vb σ' τ := by
  obtain ⟨σ', e1, fr, h2, h15, h16, we, hF⟩ := fit_of X hT hwP ht h13
  have ar : ∀ b, b < 58 ∨ b = 83 ∨ b = 84 → σ'.1 b = σ.1 b := fun b hb => funext fun j => fr b j (by unfold fsC; omega)
  have e10 : σ'.1 81 10 = σ.1 81 10 := fr 81 10 (by unfold fsC; omega)
  have hn20 : n < 2 ^ 20 := X.1.2.2.2.2.2.2.2.2.2
  have h33 : σ.1 33 5 = nI n := X.1.1.2.2.2.2.2.2.2.2.2
  have hmE := X.mE
  have hE := X.e100
  refine ⟨σ', e1, fr, h2, hF, Or.inr ⟨n, n, h15, by rw [ar 33 (by omega)]; exact h33, Nat.le_refl n, hn20, fun _ => ⟨T, T, h16, e10.trans ht.1, Nat.le_refl T, hT, fun _ => ?_⟩⟩⟩
  refine ⟨S, P, n0, n, E, mm, M, T, τ.1 583, ⟨by rw [ar 4 (by omega)]; exact X.hS, X.S8⟩, ⟨by rw [ar 4 (by omega)]; exact X.hP, X.P8⟩, ⟨by rw [ar 4 (by omega)]; exact X.1.1.2.2.2.2.1, X.1.1.2.2.2.2.2.1⟩, ⟨by rw [ar 4 (by omega)]; exact X.cE, hE⟩, ⟨e10.trans ht.1, hT⟩, ⟨(X.2.2.1.s (fun b hb => ar b (by omega))).cp we X.S8 X.P8 (fun _ _ => rfl), by omega⟩, fun L' ln' go' who' lv' whr' q1 q2 q3 q4 q5 => ?_⟩
  rw [ar 12 (by omega)] at q1
  rw [ar 13 (by omega)] at q2
  rw [ar 83 (by omega), ar 84 (by omega)] at q3
  have q4' : ∀ m, m < E + 1 → ∃ r, r < 100 ∧ σ.1 35 m = nI r ∧ ∀ p s, p < P → s < S → tbC σ r p s = L' m p s := fun m hm => by
    obtain ⟨r, r1, r2, r3⟩ := q4 m hm
    rw [ar 35 (by omega)] at r2
    refine ⟨r, r1, r2, fun p s hp hs => ?_⟩
    have := r3 p s hp hs
    show σ.1 34 (r * 64 + p * 8 + s) = _
    rw [← ar 34 (by omega)]
    exact this
  obtain ⟨σ2, e2, -, -, -, -, -, hF2⟩ := fit_of (X.cgL q1 q4' q5) hT (fun i hi => (q3 i hi).1) ⟨ht.1, fun i hi => (q3 i hi).2⟩ q2
  have e : σ2 = σ' := by
    rw [e1] at e2
    injection e2 with e2
    exact e2.symm
  rw [e] at hF2
  exact hF2
theorem us_old (hV : Vb σ τ) (X : QX I σ τ S P n0 n E go L ln qn sn mm M) (hT : T ≤ 8) (hwP : ∀ i, i < T → who i < P) (ht : TDc σ T who whr) (h13 : ∀ g, g < n0 → σ.1 13 g = nI (lv g) ∧ lv g < 100) (k1 : σ.1 81 15 = σ.1 33 5) (k2 : σ.1 81 16 = σ.1 81 10) (k3 : GOn σ 87 39) : FITc L τ S P n0 E mm T go who lv whr (τ.1 583) (σ.1 86) := by
  have hn20 : n < 2 ^ 20 := X.1.2.2.2.2.2.2.2.2.2
  have h33 : σ.1 33 5 = nI n := X.1.1.2.2.2.2.2.2.2.2.2
  have hmE := X.mE
  have hE := X.e100
  have hS8 := X.S8
  have hP8 := X.P8
  rcases hV with z | ⟨a, n1, a1, a2, a3, a4, a5⟩
  · rw [k1, h33] at z
    exact absurd z (nI_m1 (by omega))
  · have ea : a = n1 := nI_ij (by omega) (by omega) (a1.symm.trans (k1.trans a2))
    obtain ⟨b, T1, b1, b2, b3, b4, b5⟩ := a5 ea
    have eb : b = T1 := nI_ij (by omega) (by omega) (b1.symm.trans (k2.trans b2))
    obtain ⟨S1, P1, n01, n2, E1, m1, M1, T2, A0, ⟨s1, s2⟩, ⟨p1, p2⟩, ⟨o1, o2⟩, ⟨r1, r2⟩, ⟨u1, u2⟩, ⟨v1, v2⟩, v3⟩ := b5 eb
    have eS : S1 = S := nI_ij (by omega) (by omega) (s1.symm.trans X.hS)
    have eP : P1 = P := nI_ij (by omega) (by omega) (p1.symm.trans X.hP)
    have hn : n0 ≤ 10 := X.1.1.2.2.2.2.2.1
    have en : n01 = n0 := nI_ij (by omega) (by omega) (o1.symm.trans X.1.1.2.2.2.2.1)
    have eE : E1 = E := nI_ij (by omega) (by omega) (r1.symm.trans X.cE)
    have eT : T2 = T := nI_ij (by omega) (by omega) (u1.symm.trans ht.1)
    subst eS eP en eE eT
    have c7 : σ.1 87 7 = nI m1 := v1.1.m.trans v1.2.1.1.2.1
    have em : m1 = mm := nI_ij (by omega) (by omega) (c7.symm.trans (k3.1.trans X.cm))
    subst em
    have F := v3 L ln go who lv whr X.1.1.2.2.2.2.2.2.1 h13 (fun i hi => ⟨hwP i hi, ht.2 i hi⟩) X.1.2.2.2.2.2.2.2.1 X.1.2.2.2.2.2.2.2.2.1
    have hJ : JE S1 P1 A0 (τ.1 583) := v1.je X.2.2.1 hS8 hP8 k3.1 (fun i hi => k3.2.1 i hi) (fun i hi => k3.2.2 i hi)
    intro s hs
    obtain ⟨f1, f2⟩ := F s hs
    refine ⟨fun z => ?_, f2⟩
    obtain ⟨bb, bb1, bb2⟩ := f1 z
    refine ⟨bb, bb1.je (fun τ' h1 h2 => ?_) v1.2.1.1 hJ hwP, bb2⟩
    have f2' : FT scM τ (stI τ 570 39 (nI s)) := FT.I (by unfold scM; omega)
    have fx : FR bcC σ (stI σ 38 2 (nI s)) := (FR.I (by unfold scC; omega) : FR scC σ (stI σ 38 2 (nI s))).bc
    have e39 : (stI τ 570 39 (nI s)).1 570 39 = nI s := by rw [stI_570, if_pos rfl]
    have K2 := X.1.qh fx f2' (by rw [stI_e, if_pos rfl]) e39 (by rw [stI_e, if_neg (by omega)]; exact X.fin.2.1) (by rw [stI_570, if_neg (by omega)]; exact X.fin.2.2.2)
    exact ⟨stI τ 570 39 (nI s), ⟨stI_n (by omega), stI_n (by omega), stI_n (by omega)⟩, e39, K2.2.1⟩
end
