/-! been -/
section
variable {I : LH → Prop} {V : LH → LH → Prop} {σ τ σ' τ' : LH} {S P F E n0 n cnt mm M k N c T : Nat} {wn mn xn qn sn go who lv : Nat → Nat} {held : Option Nat} {Bt : Nat → Nat → Nat} {le : Nat → Nat} {CLs : Nat → CL} {ln : Nat → Nat → Nat → Nat} {whr : Nat → Int32} {L : Nat → Nat → Nat → Int32}
theorem OT.bn (h : OT V σ τ S P F E n cnt wn mn xn qn held Bt le CLs) (hσ : ∀ b j, ¬ fsC b j → σ'.1 b j = σ.1 b j) (hV' : V σ' τ) : OT V σ' τ S P F E n cnt wn mn xn qn held Bt le CLs := by
  obtain ⟨h1, h2, h3, h4, ⟨T, t1, t2, t3, t4⟩, ⟨c1, c2, c3⟩, h7, ⟨u, u1, u2, u3⟩, ⟨t, d1, d2, d3, d4⟩, h10, h11⟩ := h
  have a : ∀ b, b < 58 ∨ b = 83 ∨ b = 84 ∨ 195 ≤ b → σ'.1 b = σ.1 b := fun b hb => funext fun j => hσ b j (by unfold fsC; omega)
  have hS8 : S ≤ 8 := h1.1
  have hP8 : P ≤ 8 := h1.2.1
  refine ⟨h1, ?_, h3, fun s hs => ?_, ⟨T, ?_, t2, t3, fun i hi => ?_⟩, ⟨?_, c2, fun t ht => ?_⟩, ?_, ⟨u, u1, ?_, u3⟩, ⟨t, ?_, d2, d3, fun i hi => ?_⟩, ?_, hV'⟩
  · rw [a 4 (by omega)]; exact h2
  · rw [a 6 (by omega)]; exact h4 s hs
  · rw [a 2 (by omega)]; exact t1
  · rw [a 3 (by omega)]; exact t4 i hi
  · rw [a 1 (by omega)]; exact c1
  · have x := c3 t ht
    unfold TasteC at x ⊢
    rw [a (195 + 3 * t) (by omega), a (195 + 3 * t + 1) (by omega)]
    exact x
  · rw [a 1 (by omega)]; exact h7
  · rw [a 1 (by omega)]; exact u2
  · rw [hσ 81 10 (by unfold fsC; omega)]; exact d1
  · rw [a 83 (by omega), a 84 (by omega)]; exact d4 i hi
  · rcases h10 with ⟨z1, z2⟩ | ⟨z1, z2, z3⟩
    · refine Or.inl ⟨?_, z2⟩
      rw [a 1 (by omega)]; exact z1
    · refine Or.inr ⟨?_, z2, ?_⟩
      · rw [a 1 (by omega)]; exact z1
      · have eg : ∀ c, c < 9 → gH σ' 49 c = gH σ 49 c := fun c hc => a (49 + c) (by omega)
        exact z3.cp hS8 hP8 (fun b hb => a b (by omega)) ⟨fun c _ _ j _ => by rw [eg c (by omega)], by rw [eg 0 (by omega)], by rw [eg 0 (by omega)], by rw [eg 0 (by omega)]⟩ (fun j _ => by rw [eg 8 (by omega)]) (fun _ _ => rfl)
theorem fs_some (hV : Vb σ τ) (X : QX I σ τ S P n0 n E go L ln qn sn mm M) (hT : T ≤ 8) (hwP : ∀ i, i < T → who i < P) (ht : TDc σ T who whr) (h13 : ∀ g, g < n0 → σ.1 13 g = nI (lv g) ∧ lv g < 100) : ∃ σ', s_Branches_findSets σ = some σ' ∧ (∀ b j, ¬ fsC b j → σ'.1 b j = σ.1 b j) ∧ σ'.2 = σ.2 ∧ FITc L τ S P n0 E mm T go who lv whr (τ.1 583) (σ'.1 86) ∧ Vb σ' τ := by
  unfold s_Branches_findSets s_Branches_findSets_43
  by_cases k1 : σ.1 81 15 = σ.1 33 5
  · by_cases k2 : σ.1 81 16 = σ.1 81 10
    · obtain ⟨r, r1, r2⟩ := go_on (σ := σ) (h := 87) (b := 39)
      rw [if_pos k1, if_pos k2, r1, xb2_so]
      rcases r2 with r2 | ⟨r2, r3⟩
      · rw [if_pos r2]
        exact st_new X hT hwP ht h13
      · rw [r2, if_neg (show ¬ (1 : Int32) = 0 by decide)]
        refine ⟨σ, ?_, fun _ _ _ => rfl, rfl, us_old hV X hT hwP ht h13 k1 k2 r3, hV⟩
        unfold s_Branches_findSets_44
        rw [if_neg (show ¬ (1 : Int32) = 0 by decide)]
    · rw [if_pos k1, if_neg k2]
      exact st_new X hT hwP ht h13
  · rw [if_neg k1]
    exact st_new X hT hwP ht h13
theorem fit_bool {A F : Nat → Int32} (h : FITc L τ S P n0 E mm T go who lv whr A F) : ∃ fb : Nat → Bool, ∀ s, s < 1024 → F s = if fb s = true then 1 else 0 := by
  refine ⟨fun s => decide (F s = 1), fun s hs => ?_⟩
  have v : F s = 0 ∨ F s = 1 := by
    by_cases q : ∀ g, g < 10 → s.testBit g = true → (mkR lv mm n0).testBit g = true
    · obtain ⟨b, -, b2⟩ := (h s hs).1 q
      rw [b2]
      cases b
      · exact Or.inl rfl
      · exact Or.inr rfl
    · exact Or.inl ((h s hs).2 q)
  show F s = if decide (F s = 1) = true then 1 else 0
  rcases v with v | v
  · rw [v, decide_eq_false (show ¬ (0 : Int32) = 1 by decide), if_neg (show ¬ false = true by decide)]
  · rw [v, decide_eq_true (show (1 : Int32) = 1 from rfl), if_pos rfl]
end
section
variable {σ τ : LH} {c : Nat}
theorem w_been (h : NV Vb c σ τ) (x : Int32) : AL Vb c (s_Main_been x σ) (s_Model_been x τ) := by
  obtain ⟨S, P, F, E, n0, n, cnt, mm, M, k, N, wn, mn, xn, qn, sn, go, held, Bt, le, CLs, ln, h, hn⟩ := h
  have X := h.1
  have X0 := X.z MI.dep
  have hP8 := X.P8
  by_cases q1 : P = 0
  · refine h.qr Vb_cl hn (QR.no X MI.dep (-1) ?_ ?_)
    · unfold s_Main_been
      rw [g_hasRoom X, xb2_so, if_pos q1, if_pos rfl]
    · unfold s_Model_been s_Model_been_17
      rw [xl_so, if_pos ((m_noRoom X0).mpr q1)]
  · obtain ⟨-, -, -, -, -, -, -, -, ⟨T, d1, d2, d3, d4⟩, -, hV⟩ := h.2.2.2
    have hVz : Vb σ (stI τ 570 0 0) := Vb_fr hV (fun _ _ => rfl) rfl (fun _ _ => rfl) (fun b hb => stI_n (by omega))
    have hw : ∀ i, i < T → (σ.1 83 i).toNatClampNeg < P ∧ σ.1 83 i = nI (σ.1 83 i).toNatClampNeg := fun i hi => by
      obtain ⟨-, -, ⟨p, p1, p2⟩, -⟩ := d4 i hi
      rw [p2, nI_clamp (by omega)]
      exact ⟨p1, rfl⟩
    have h13 : ∀ g, g < n0 → σ.1 13 g = nI (σ.1 13 g).toNatClampNeg ∧ (σ.1 13 g).toNatClampNeg < 100 := fun g hg => by
      obtain ⟨-, -, -, -, l, l1, l2⟩ := X.1.2.2.2.1 g hg
      rw [l2, nI_clamp (by omega)]
      exact ⟨rfl, l1⟩
    have ht : TDc σ T (fun i => (σ.1 83 i).toNatClampNeg) (fun i => σ.1 84 i) := ⟨d1, fun i hi => ⟨(hw i hi).2, rfl⟩⟩
    have htm : TDm (stI τ 570 0 0) T (fun i => (σ.1 83 i).toNatClampNeg) (fun i => σ.1 84 i) := by
      refine ⟨by rw [stI_570, if_neg (by omega)]; exact d2, fun i hi => ?_⟩
      rw [stI_n (by omega), stI_n (by omega)]
      exact ⟨(d4 i hi).1.symm.trans (hw i hi).2, (d4 i hi).2.1.symm⟩
    obtain ⟨σ1, e1, fr, e2, hF, hV1⟩ := fs_some (lv := fun g => (σ.1 13 g).toNatClampNeg) hVz X0 d3 (fun i hi => (hw i hi).1) ht h13
    have uC : s_Main_been x σ = s_Branches_fitting x σ1 := by
      unfold s_Main_been
      rw [g_hasRoom X, xb2_so, if_neg q1, if_neg (show ¬ (1 : Int32) = 0 by decide), e1, xb1_so]
      cases hf : s_Branches_fitting x σ1 with
      | none => rfl
      | some r => rfl
    have hfr : FR mvC σ σ1 := ⟨fun b j q => fr b j (by unfold mvC at q; unfold fsC; omega), e2⟩
    by_cases q2 : -1 ≤ x
    · obtain ⟨r, τ', r1, r2, r3, r4⟩ := b_ans (x := x) (σ1 := σ1) MI.dep h.lk X0 d3 (fun i hi => (hw i hi).1) htm (fun g hg => ⟨(X0.1.2.2.2.1 g hg).1.symm.trans (h13 g hg).1, (h13 g hg).2⟩) hF q2
      have h2 := h.q Vb_cl FR.rf (FT.z.tr r3) r4.fin r4.it
      have hV2 : Vb σ1 τ' := Vb_fr hV1 (fun _ _ => rfl) rfl (fun _ _ => rfl) (fun b hb => r3.ar (fun j => by unfold scM; omega))
      refine h2.m hn hfr FT.rf rfl (h2.2.2.2.bn fr hV2) (uC.trans r1) ?_
      unfold s_Model_been
      rw [xl_so, if_neg (fun z => q1 ((m_noRoom X0).mp z)), if_pos q2]
      exact r2
    · obtain ⟨fb, hfb⟩ := fit_bool hF
      have cf := c_fit (x := x) hfb 1024 FUEL 0 0 (by omega) (by unfold FUEL; omega)
      have ng := fiR_neg (f := fb) (Int32.not_le.mp q2) 1024 0 0 (by omega)
      rw [nI_0] at cf ng
      rw [ng] at cf
      have h2 := h.q Vb_cl FR.rf FT.z X0.fin X0.it
      refine h2.m hn hfr FT.rf rfl (h2.2.2.2.bn fr hV1) (uC.trans cf) ?_
      unfold s_Model_been s_Model_been_17
      rw [xl_so, if_neg (fun z => q1 ((m_noRoom X0).mp z)), if_neg q2]
end
