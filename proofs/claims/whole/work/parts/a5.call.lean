/-! games of waiting: call -/
section
variable {I : LH → Prop} {σ τ σ' τ' : LH} {S P n0 n E mm M : Nat} {go : Nat → Nat} {L : Nat → Nat → Nat → Int32} {ln : Nat → Nat → Nat → Nat} {qn sn : Nat → Nat} {r : Int32}
def wSc (b j : Nat) : Prop := 58 ≤ b ∧ b ≤ 80
def wSm (b j : Nat) : Prop := (591 ≤ b ∧ b ≤ 594) ∨ (b = 570 ∧ (j = 51 ∨ j = 53 ∨ j = 54))
theorem FR.up {W W' : Nat → Nat → Prop} (h : FR W σ σ') (hw : ∀ b j, W b j → W' b j) : FR W' σ σ' := ⟨fun b j q => h.1 b j (fun z => q (hw b j z)), h.2⟩
theorem FR.fts (h : FR wSm τ τ') : FT scM τ τ' := ⟨fun b j q => h.1 b j (fun z => q (by unfold wSm at z; unfold scM; omega)), fun b _ => by rw [h.2], by rw [h.2]⟩
theorem wSm_I (hD : Idep I) (h : FR wSm τ τ') (hI : I τ) : I τ' := hD τ τ' hI (fun b hb => funext fun j => h.1 b j (by unfold wSm; omega)) (h.1 570 35 (by unfold wSm; omega)) (by rw [h.2])
theorem QR.sc (X : QX I σ τ S P n0 n E go L ln qn sn mm M) (hD : Idep I) (hσ : FR wSc σ σ') (hτ : FR wSm (stI τ 570 0 0) τ') : QR I (some (r, σ')) (some (r, τ')) σ τ := by
  have X0 := X.z hD
  refine ⟨r, σ', τ', rfl, rfl, hσ.up (fun b j z => by unfold wSc at z; unfold scC; omega), FT.z.tr hτ.fts, ⟨?_, ?_, ?_, ?_⟩, wSm_I hD hτ X0.it⟩
  · rw [hσ.1 38 2 (by unfold wSc; omega)]; exact X0.fin.1
  · rw [hσ.1 38 3 (by unfold wSc; omega)]; exact X0.fin.2.1
  · rw [hτ.1 570 39 (by unfold wSm; omega)]; exact X0.fin.2.2.1
  · rw [hτ.1 570 40 (by unfold wSm; omega)]; exact X0.fin.2.2.2
theorem g_isGame (X : QX I σ τ S P n0 n E go L ln qn sn mm M) (c : Int32) : ∃ σ1, s_Main_isGame c σ = some (if (0 ≤ c ∧ c ≤ 99) ∧ mm < E ∧ 1 ≤ (hpl (τ.1 583) P).length ∧ (hpl (τ.1 583) P).length ≤ 4 then 1 else 0, σ1) ∧ FR wGa σ σ1 ∧ ((hpl (τ.1 583) P).length ≤ 4 → ((0 ≤ c ∧ c ≤ 99) ∧ mm < E) → GAc σ1 (hpl (τ.1 583) P)) := by
  have hP8 := X.P8
  have hE := X.e100
  have hmE := X.mE
  unfold s_Main_isGame s_Main_isGame_31 s_Main_isGame_32
  simp only [if_pos (show zb 0 from Or.inl rfl), if_pos (show zb 1 from Or.inr rfl)]
  by_cases q1 : c < 0
  · rw [if_pos q1, if_neg (fun z => Int32.not_le.mpr q1 z.1.1)]
    exact ⟨σ, rfl, FR.rf, fun _ z => absurd q1 (Int32.not_lt.mpr z.1.1)⟩
  · rw [if_neg q1]
    by_cases q2 : 99 < c
    · rw [if_pos q2, if_neg (fun z => Int32.not_le.mpr q2 z.1.2)]
      exact ⟨σ, rfl, FR.rf, fun _ z => absurd q2 (Int32.not_lt.mpr z.1.2)⟩
    · rw [if_neg q2, X.gL, xb2_so]
      have hc : 0 ≤ c ∧ c ≤ 99 := ⟨Int32.not_lt.mp q1, Int32.not_lt.mp q2⟩
      by_cases q3 : mm < E
      · rw [if_neg (show ¬ nI (E - mm) ≤ 0 from nI_ge (a := 0) (b := E - mm) (by omega) (by omega))]
        have f0 : FR wGa σ (stI σ 68 5 0) := FR.I (by unfold wGa; omega)
        obtain ⟨σ1, a1, a2, a3⟩ := c_gath (A := τ.1 583) hP8 P FUEL 0 (stI σ 68 5 0) (by omega) (by unfold FUEL; omega) (by rw [stI_n (by omega)]; exact X.hP) (fun q hq => by rw [stI_n (by omega)]; exact X.2.2.1.1.c1 q hq) ⟨by rw [stI_e, if_pos rfl]; rfl, fun i hi => absurd hi (Nat.not_lt_zero i)⟩ (by show 0 ≤ 4; omega)
        have eg : s_Game_gather σ = some (if 1 ≤ (hpl (τ.1 583) P).length ∧ (hpl (τ.1 583) P).length ≤ 4 then 1 else 0, σ1) := by
          unfold s_Game_gather
          rw [xl_so]
          rw [nI_0] at a1
          exact a1
        refine ⟨σ1, ?_, f0.tr a2, fun h _ => a3 h⟩
        rw [eg, xb2_so]
        by_cases q4 : 1 ≤ (hpl (τ.1 583) P).length ∧ (hpl (τ.1 583) P).length ≤ 4
        · rw [if_pos q4, if_neg (show ¬ (1 : Int32) = 0 by decide), if_pos ⟨hc, q3, q4⟩]
        · rw [if_neg q4, if_pos rfl, if_neg (fun z => q4 z.2.2)]
      · rw [show E - mm = 0 by omega, if_pos (show nI 0 ≤ 0 by decide), if_neg (fun z => q3 z.2.1)]
        exact ⟨σ, rfl, FR.rf, fun _ z => absurd z.2 q3⟩
theorem g_layHere (X : QX I σ τ S P n0 n E go L ln qn sn mm M) (hD : Idep I) : ∃ τ1, s_Model_layHere (stI τ 570 0 0) = some (if mm < E ∧ 1 ≤ (hpl (τ.1 583) P).length ∧ (hpl (τ.1 583) P).length ≤ 4 then 1 else 0, τ1) ∧ FR wLa (stI τ 570 0 0) τ1 ∧ GAm τ1 (hpl (τ.1 583) P) := by
  have X0 := X.z hD
  have hP8 := X.P8
  have hE := X.e100
  have hmE := X.mE
  have f0 : FR wLa (stI τ 570 0 0) (stI (stI τ 570 0 0) 570 51 0) := FR.I (by unfold wLa; omega)
  obtain ⟨τ1, a1, a2, a3⟩ := m_lay (A := τ.1 583) (mm := mm) (c := E - mm) hP8 (by omega) P FUEL 0 (stI (stI τ 570 0 0) 570 51 0) (by omega) (by unfold FUEL; omega) (by rw [stI_570, if_neg (by omega)]; exact X0.mP) (by rw [stI_n (by omega), show mm + (E - mm) = E by omega]; exact X0.tE) (by rw [stI_n (by omega)]; exact X0.tm) (fun q hq => by rw [stI_n (by omega), stI_n (by omega)]) ⟨by rw [stI_570, if_pos rfl]; rfl, fun i hi => absurd hi (Nat.not_lt_zero i)⟩
  refine ⟨τ1, ?_, f0.tr a2, a3⟩
  unfold s_Model_layHere
  rw [xl_so]
  rw [nI_0] at a1
  rw [a1]
  by_cases q : mm < E ∧ 1 ≤ (hpl (τ.1 583) P).length ∧ (hpl (τ.1 583) P).length ≤ 4
  · rw [if_pos q, if_pos ⟨by omega, q.2⟩]
  · rw [if_neg q, if_neg (fun z => q ⟨by omega, z.2⟩)]
/-- numbers, as both hold them -/
theorem NMb.nm {sz : Nat} (h : NMb σ τ 0 sz) : ∃ nm : Nat → Nat, (∀ k, k < sz → σ.1 79 k = nI (nm k) ∧ nm k ≤ 4) ∧ ∀ k, k < sz → τ.1 592 k = nI (nm k) ∧ nm k ≤ 4 := by
  refine ⟨fun k => (σ.1 79 k).toNatClampNeg, fun k hk => ?_, fun k hk => ?_⟩
  · obtain ⟨d, d1, d2, d3⟩ := h k (by omega) hk
    simp only
    rw [d2, nI_clamp (by omega)]
    exact ⟨rfl, d1⟩
  · obtain ⟨d, d1, d2, d3⟩ := h k (by omega) hk
    simp only
    rw [d2, d3, nI_clamp (by omega)]
    exact ⟨rfl, d1⟩
theorem QX.q9 (X : QX I σ τ S P n0 n E go L ln qn sn mm M) {p : Nat} (hp : p < P) : σ.1 9 p = nI (qn p) ∧ τ.1 577 (4 * p + 1) = nI (qn p) ∧ qn p < 10 := by
  have h := X.1.2.2.2.2.2.1 p hp
  have f := X.1.2.2.1.2.2.1 p hp
  exact ⟨f.trans h.1, h.1, h.2⟩
theorem a_call (hD : Idep I) (hL : LKok I P S L) (X : QX I σ τ S P n0 n E go L ln qn sn mm M) (x c p : Int32) : QR I (s_Main_call x c p σ) (s_Model_call x c p τ) σ τ := by
  have X0 := X.z hD
  have hP8 := X.P8
  obtain ⟨σ1, g1, g2, g3⟩ := g_isGame X c
  obtain ⟨τ1, l1, l2, l3⟩ := g_layHere X hD
  have hlt : ∀ i, i < (hpl (τ.1 583) P).length → (hpl (τ.1 583) P).getD i 0 < P := fun i hi => hpl_lt hi
  have hlen := hpl_len (A := τ.1 583) P
  generalize hpl (τ.1 583) P = hs at *
  have g2' : FR wSc σ σ1 := g2.up (fun b j z => by unfold wGa at z; unfold wSc; omega)
  have l2' : FR wSm (stI τ 570 0 0) τ1 := l2.up (fun b j z => by unfold wLa at z; unfold wSm; omega)
  unfold s_Main_call s_Model_call s_Main_call_19 s_Main_call_53 s_Model_call_37
  rw [g1, xb2_so, xl_so, l1, xb2_so]
  by_cases q1 : mm < E ∧ 1 ≤ hs.length ∧ hs.length ≤ 4
  · rw [if_pos q1, if_neg (show ¬ (1 : Int32) = 0 by decide), m_place l3 (by omega), xb2_so]
    by_cases q2 : 0 ≤ c ∧ c ≤ 99
    · have G := g3 q1.2.2 ⟨q2, q1.1⟩
      rw [if_pos (show (0 ≤ c ∧ c ≤ 99) ∧ mm < E ∧ 1 ≤ hs.length ∧ hs.length ≤ 4 from ⟨q2, q1⟩), if_neg (show ¬ (1 : Int32) = 0 by decide)]
      have h5 : σ1.1 68 5 = nI hs.length := G.1
      have h51 : τ1.1 570 51 = nI hs.length := l3.1
      have t1 : nI hs.length - 1 = nI hs.length + (-1) := by rw [Int32.sub_eq_add_neg]
      have eRow : s_Game_takeRow x σ1 = s_Game_takeRow_9 x FUEL x (nI hs.length + (-1)) σ1 := by
        unfold s_Game_takeRow
        rw [xl_so, h5, t1]
      -- what the class says where the row is none
      have cNo : ∀ σ2, s_Game_takeRow x σ1 = some (0, σ2) → FR (fun b _ => b = 79) σ1 σ2 → ∀ τ2, FR wSm (stI τ 570 0 0) τ2 → QR I (xb2 (s_Game_takeRow x σ1) fun r6 σ7 => if r6 = 0 then some (-1000000, σ7) else xb2 (s_Game_placeOf p σ7) fun r10 σ11 => if r10 = -1 then some (-1000000, σ11) else xb2 (s_Game_gainNow r10 c σ11) fun r14 σ15 => some (r14, σ15)) (some (-1000000, τ2)) σ τ := fun σ2 e f τ2 ft => by
        rw [e, xb2_so, if_pos rfl]
        exact QR.sc X hD (g2'.tr (f.up (fun b j z => by unfold wSc; omega))) ft
      by_cases q3 : x < 0
      · obtain ⟨σ2, r1, r2⟩ := row_neg (z := x) hs.length FUEL x σ1 (by omega) (by unfold FUEL; omega) q3
        rw [← eRow] at r1
        by_cases q4 : plN hs p hs.length 0 = -1
        · rw [if_pos q4]
          exact cNo σ2 r1 r2 τ1 l2'
        · rw [if_neg q4, m_in099, xb2_so, if_pos q2, if_neg (show ¬ (1 : Int32) = 0 by decide), if_neg (fun z => absurd q3 (Int32.not_lt.mpr z))]
          exact cNo σ2 r1 r2 τ1 l2'
      · have x0 : 0 ≤ x := Int32.not_lt.mp q3
        obtain ⟨v, hv, rfl⟩ : ∃ v, v < 2 ^ 31 ∧ x = nI v := by
          have b1 := x.toInt_lt
          rw [Int32.le_iff_toInt_le, show (0 : Int32).toInt = 0 by decide] at x0
          refine ⟨x.toInt.toNat, by omega, Int32.toInt_inj.mp ?_⟩
          rw [nI_toInt (by omega)]
          omega
        rcases rows_ok (p1 := c) (p2 := p) (sz := hs.length) q1.2.2 hs.length FUEL FUEL v σ1 τ1 (by omega) (by unfold FUEL; omega) (by unfold FUEL; omega) hv (fun k h1 h2 => by omega) with ⟨σ2, τ2, y, b1, b2, b3, b4, -⟩ | ⟨σ2, τ2, m, b1, b2, b3, b4, b5⟩
        · have r1 := b1 (nI v)
          rw [← eRow] at r1
          by_cases q4 : plN hs p hs.length 0 = -1
          · rw [if_pos q4]
            exact cNo σ2 r1 b3 τ1 l2'
          · rw [if_neg q4, m_in099, xb2_so, if_pos q2, if_neg (show ¬ (1 : Int32) = 0 by decide), if_pos x0, xl_so, h51, t1, b2 (nI v)]
            exact cNo σ2 r1 b3 τ2 (l2'.tr (b4.up (fun b j z => by unfold wSm; omega)))
        · have r1 := b1 (nI v)
          rw [← eRow] at r1
          have f2 : FR wSc σ σ2 := g2'.tr (b3.up (fun b j z => by unfold wSc; omega))
          have G2 : GAc σ2 hs := ⟨by rw [b3.1 68 5 (by omega)]; exact G.1, fun i hi => by rw [b3.1 78 i (by omega)]; exact G.2 i hi⟩
          rw [r1, xb2_so, if_neg (show ¬ (1 : Int32) = 0 by decide), c_place G2 q1.2.2, xb2_so]
          rcases plN_ok (hs := hs) (x := p) hs.length 0 with q4 | ⟨j, j1, j2, j3, j4⟩
          · rw [if_pos q4, if_pos q4]
            exact QR.sc X hD f2 l2'
          · have hj : j < hs.length := by omega
            have hjP := hlt j hj
            rw [j3, if_neg (nI_m1 (by omega)), if_neg (nI_m1 (by omega)), m_in099, xb2_so, if_pos q2, if_neg (show ¬ (1 : Int32) = 0 by decide), if_pos x0, xl_so, h51, t1, b2 (nI v)]
            obtain ⟨nm, n1, n2⟩ := b5.nm
            have f2s : FR scC σ σ2 := f2.up (fun b j z => by unfold wSc at z; unfold scC; omega)
            have q9 : ∀ k, k < hs.length → σ2.1 9 (hs.getD k 0) = nI (qn (hs.getD k 0)) ∧ qn (hs.getD k 0) < 100 := fun k hk => by
              have z := X0.q9 (hlt k hk)
              rw [f2.1 9 _ (by unfold wSc; omega)]
              exact ⟨z.1, by omega⟩
            have h38 : ∀ i, σ2.1 38 i = σ.1 38 i := fun i => f2.1 38 i (by unfold wSc; omega)
            have hOC : OC hs ((WMn nm (fun k => qn (hs.getD k 0)) hs.length).map fun g => hs.getD g 0) (LSn nm hs.length) (ocn nm (fun k => qn (hs.getD k 0)) hs.length) := by
              rcases ocn_WM (nm := nm) (qk := fun k => qn (hs.getD k 0)) (sz := hs.length) with ⟨z1, z2, z3⟩ | ⟨g, z1, z2, z3, z4⟩
              · exact Or.inl ⟨by rw [z1]; rfl, z2, z3⟩
              · exact Or.inr ⟨g, z2, by rw [z1]; rfl, z3, z4⟩
            obtain ⟨σ3, c1, c2, c3, c4', c5, c6, c7⟩ := c_tryOut hD hL X0 hOC G2 q1.2.2 hlt f2s (by rw [h38]; exact X0.fin.1) (by rw [h38]; exact X0.fin.2.1)
            have G3 : GAc σ3 hs := ⟨by rw [c7 68 (by omega) (by omega) (by omega)]; exact G2.1, fun i hi => by rw [c7 78 (by omega) (by omega) (by omega)]; exact G2.2 i hi⟩
            have n3 : ∀ k, k < hs.length → σ3.1 79 k = nI (nm k) ∧ nm k ≤ 4 := fun k hk => by rw [c7 79 (by omega) (by omega) (by omega)]; exact n1 k hk
            have q93 : ∀ k, k < hs.length → σ3.1 9 (hs.getD k 0) = nI (qn (hs.getD k 0)) ∧ qn (hs.getD k 0) < 100 := fun k hk => by rw [c7 9 (by omega) (by omega) (by omega)]; exact q9 k hk
            have hP8' : ∀ i, i < hs.length → hs.getD i 0 < 8 := fun i hi => by have := hlt i hi; omega
            have gn : s_Game_gainNow (nI j) c σ2 = some (Jv (stI τ 570 0 0) ((WMn nm (fun k => qn (hs.getD k 0)) hs.length).map fun g => hs.getD g 0) (LSn nm hs.length) (hs.getD j 0) - c * nI (LSn nm hs.length), σ3) := by
              unfold s_Game_gainNow
              rw [c_outc (hs := hs) (qk := fun k => qn (hs.getD k 0)) G2.1 q1.2.2 n1 (fun k hk => ⟨G2.2 k hk, hP8' k hk⟩) q9, xb2_so, c1, xb1_so, c_gain (qk := fun k => qn (hs.getD k 0)) G3 q1.2.2 n3 hP8' q93 (by omega), xb2_so, c2 j hj]
            have ft2 : FR wSm (stI τ 570 0 0) τ2 := l2'.tr (b4.up (fun b j z => by unfold wSm; omega))
            have Gm : GAm τ2 hs := ⟨by rw [b4.1 570 51 (by omega)]; exact l3.1, fun i hi => by rw [b4.1 591 i (by omega)]; exact l3.2 i hi⟩
            have q7 : ∀ k, k < hs.length → τ2.1 577 (4 * hs.getD k 0 + 1) = nI (qn (hs.getD k 0)) ∧ qn (hs.getD k 0) < 100 := fun k hk => by
              have z := X0.q9 (hlt k hk)
              rw [ft2.1 577 _ (by unfold wSm; omega)]
              exact ⟨z.2.1, by omega⟩
            obtain ⟨τ3, d1, d2, d3, d4, d5, d6, d7, d8⟩ := m_rings (σ0 := σ) (qk := fun k => qn (hs.getD k 0)) hD hL X0 Gm q1.2.2 hlt n2 q7 ft2.fts (by rw [ft2.1 570 39 (by unfold wSm; omega)]; exact X0.fin.2.2.1) (by rw [ft2.1 570 40 (by unfold wSm; omega)]; exact X0.fin.2.2.2) (wSm_I hD ft2 X0.it)
            rw [gn, xb2_so, s_Model_call_52]
            unfold s_Model_call_52_b
            rw [if_pos (show nI 0 + (-1) < 0 by decide), if_pos (show nI 0 ≤ 0 by decide), d1, xb2_so, ← j4, c4, a3, if_pos (ib_nI (show 4 * hs.getD j 0 + 3 < 290 by omega) (by omega)), nI_clamp (show 4 * hs.getD j 0 + 3 < 2 ^ 31 by omega), d2 _ hjP]
            exact ⟨_, σ3, τ3, rfl, rfl, c4', FT.z.tr d3, ⟨c5, c6, d4, d5⟩, d6⟩
    · rw [if_neg (show ¬ ((0 ≤ c ∧ c ≤ 99) ∧ mm < E ∧ 1 ≤ hs.length ∧ hs.length ≤ 4) from fun z => q2 z.1), if_pos rfl]
      by_cases q4 : plN hs p hs.length 0 = -1
      · rw [if_pos q4]
        exact QR.sc X hD g2' l2'
      · rw [if_neg q4, m_in099, xb2_so, if_neg q2, if_pos rfl]
        exact QR.sc X hD g2' l2'
  · rw [if_neg q1, if_neg (show ¬ ((0 ≤ c ∧ c ≤ 99) ∧ mm < E ∧ 1 ≤ hs.length ∧ hs.length ≤ 4) from fun z => q1 z.2), if_pos rfl, if_pos rfl]
    exact QR.sc X hD g2' l2'
end
