/-! envy, the call -/
section
variable {I : LH → Prop} {σ τ σ' τ' τ0 : LH} {S P n0 ne ne' n E eN mm M : Nat} {go ex ex' : Nat → Nat} {who who' : Option Nat} {L : Nat → Nat → Nat → Int32} {ln : Nat → Nat → Nat → Nat} {qn sn : Nat → Nat}
/-- one asks seat by seat, one sitter by sitter -/
theorem ev_same {lm : Nat → Nat → Nat} {p z : Nat} {A : Nat → Int32} (hS8 : S ≤ 8) (hP8 : P ≤ 8) (hp : p < P) (hO : ∀ s, s < S → Occ P (fun p => A (4 * p)) s (σ.1 44 s)) : (∃ s, 0 ≤ s ∧ s < S ∧ eVC σ lm p z s) ↔ ∃ q, 0 ≤ q ∧ q < P ∧ eVM A S lm p z q := by
  constructor
  · rintro ⟨s, -, h1, h2, h3, h4⟩
    rcases hO s h1 with ⟨a1, -⟩ | ⟨q, a1, a2, a3, -⟩
    · exact absurd a1 h2
    · exact ⟨q, Nat.zero_le _, a1, fun e => h3 (by rw [a2, e]), s, h1, a3, h4⟩
  · rintro ⟨q, -, h1, h2, s, h3, h4, h5⟩
    refine ⟨s, Nat.zero_le _, h3, ?_⟩
    rcases hO s h3 with ⟨-, a2⟩ | ⟨q', a1, a2, a3, a4⟩
    · exact absurd h4 (a2 q h1)
    · have e : q = q' := a4 q h1 h4
      subst e
      exact ⟨by rw [a2]; exact nI_m1 (by omega), fun z => h2 (by rw [a2] at z; exact nI_inj (by omega) (by omega) z), h5⟩
theorem a_envy (hD : Idep I) (hL : LKok I P S L) (X : QX I σ τ S P n0 n E go L ln qn sn mm M) : QR I (s_Main_envy σ) (s_Model_envy τ) σ τ := by
  have X0 := X.z hD
  have hS8 := X.S8
  have hP8 := X.P8
  have hmE := X.mE
  have hE := X.e100
  have R := X.2.2.1.1
  have W := X.2.2.1.2.1
  obtain ⟨r, r1, r2, r3⟩ := X.1.2.2.2.2.2.2.2.1 mm (by omega)
  have hl := X.1.2.2.2.2.2.2.2.2.1 mm (by omega)
  have hst := X.1.2.2.2.2.2.2.1
  have e83 : (stI τ 570 0 0).1 583 = τ.1 583 := stI_n (by omega)
  have e77 : (stI τ 570 0 0).1 577 = τ.1 577 := stI_n (by omega)
  have loop : ∀ (m f f' p : Nat) (y : Int32) (τ1 : LH), p + m = P → m < f → m < f' → SE (stI τ 570 0 0) τ1 → I τ1 → ∃ r τ2, s_Main_envy_13 f y (nI p) σ = some (r, σ) ∧ s_Model_envy_18 f' y (nI p) τ1 = some (r, τ2) ∧ SE (stI τ 570 0 0) τ2 ∧ I τ2 := by
    intro m
    induction m with
    | zero =>
      intro f f' p y τ1 hp hf hf' hs hi
      obtain ⟨f, rfl⟩ : ∃ q, f = q + 1 := ⟨f - 1, by omega⟩
      obtain ⟨f', rfl⟩ : ∃ q, f' = q + 1 := ⟨f' - 1, by omega⟩
      refine ⟨y, τ1, ?_, ?_, hs, hi⟩
      · rw [s_Main_envy_13]
        unfold s_Main_envy_13_b
        rw [X.hP, if_pos (nI_le (by omega) (by omega))]
      · rw [s_Model_envy_18]
        unfold s_Model_envy_18_b
        rw [hs.fld (by omega), X0.mP, if_pos (nI_le (by omega) (by omega))]
    | succ m ih =>
      intro f f' p y τ1 hp hf hf' hs hi
      obtain ⟨f, rfl⟩ : ∃ q, f = q + 1 := ⟨f - 1, by omega⟩
      obtain ⟨f', rfl⟩ : ∃ q, f' = q + 1 := ⟨f' - 1, by omega⟩
      have p8 : p < P := by omega
      have d83 : τ1.1 583 = τ.1 583 := (hs.arr (by omega) (by omega) (by omega)).trans e83
      have uC : s_Main_envy_13 (f + 1) y (nI p) σ = s_Main_envy_13_b (s_Main_envy_13 f) y (nI p) σ := rfl
      have uM : s_Model_envy_18 (f' + 1) y (nI p) τ1 = s_Model_envy_18_b (s_Model_envy_18 f') y (nI p) τ1 := rfl
      unfold s_Main_envy_13_b s_Main_envies at uC
      unfold s_Model_envy_18_b at uM
      rw [X.hP, if_neg (nI_ge p8 (by omega)), g_isHere X.hP hP8 p8] at uC
      rw [hs.fld (by omega), X0.mP, if_neg (nI_ge p8 (by omega)), m_isHere (by omega), d83] at uM
      simp only [xb2, ite01] at uC uM
      have c1 : σ.1 40 p = τ.1 583 (4 * p) := R.c1 p p8
      have stay : s_Main_envy_38 (s_Main_envy_13 f) y (nI p) σ = s_Main_envy_13 f y (nI (p + 1)) σ := by
        unfold s_Main_envy_38
        simp only [xl]
        rw [nI_1]
      by_cases q : τ.1 583 (4 * p) = -2
      · rw [c1, if_pos q] at uC
        rw [if_pos q] at uM
        simp only [if_pos trivial] at uC uM
        unfold s_Model_envy_137 at uM
        simp only [xl] at uM
        rw [nI_1] at uM
        obtain ⟨r', τ2, i1, i2, i3, i4⟩ := ih f f' (p + 1) y τ1 (by omega) (by omega) (by omega) hs hi
        exact ⟨r', τ2, (uC.trans stay).trans i1, uM.trans i2, i3, i4⟩
      · have pl : plc S (τ.1 583 (4 * p)) := W.1.1 p p8
        obtain ⟨k1, k2⟩ := lkx_n (p := p) hl hS8 p8 pl
        obtain ⟨τ', t1, t2, t3⟩ := hL τ1 p (τ.1 583 (4 * p)) mm hi p8 pl (by omega)
        have s1 := hs.tr t2
        have li : s_Model_likesIn 583 (nI p) (τ.1 583 (4 * p)) τ1 = some (nI (lkN (ln mm) p (τ.1 583 (4 * p))), τ') := by
          unfold s_Model_likesIn
          rw [if_pos (show ib 48 290 by decide), d83, show τ.1 583 (Int32.toNatClampNeg 48) = nI mm from X.tm, t1, k1]
          rfl
        rw [c1, if_neg q, X.cm, l_row (by omega), r2] at uC
        simp only at uC
        rw [if_pos (ib_nI (show p < 8 by omega) (by omega)), nI_clamp (show p < 2 ^ 31 by omega)] at uC
        have lc : lkx (fun p s => σ.1 34 (r * 64 + p * 8 + s)) p (τ.1 583 (4 * p)) = nI (lkN (ln mm) p (τ.1 583 (4 * p))) := by
          rw [← k1]
          unfold lkx
          by_cases z : τ.1 583 (4 * p) < 0
          · rw [if_pos z, if_pos z]
          · rw [if_neg z, if_neg z]
            rcases pl with z2 | z2 | ⟨s, h1, h2⟩
            · rw [z2] at z; exact absurd (by decide) z
            · rw [z2] at z; exact absurd (by decide) z
            · rw [h2, nI_clamp (by omega)]
              exact r3 p s p8 h1
        have pl8 : plc 8 (τ.1 583 (4 * p)) := pl.elim Or.inl (fun z => z.elim (fun z => Or.inr (Or.inl z)) (fun ⟨s, h1, h2⟩ => Or.inr (Or.inr ⟨s, by omega, h2⟩)))
        rw [c1, l_atx r1 (by omega) pl8, lc] at uC
        simp only at uC
        obtain ⟨s2, s3, s4⟩ := hst p p8
        have s10 : σ.1 10 p = nI (sn p) := (X.1.2.2.1.2.2.2 p p8).trans s2
        rw [if_pos (ib_nI (show p < 8 by omega) (by omega)), s10] at uC
        simp only [xl] at uC
        rw [nI_add] at uC
        rw [if_neg q] at uM
        rw [show (4 : Int32) * nI p = nI (4 * p) by rw [show (4 : Int32) = nI 4 from rfl, pk_mul], if_pos (ib_nI (show 4 * p < 290 by omega) (by omega)), nI_clamp (show 4 * p < 2 ^ 31 by omega), d83, li] at uM
        simp only at uM
        have ec := g_env (σ := σ) (r := r) (p := p) (z := lkN (ln mm) p (τ.1 583 (4 * p)) + sn p) (lm := ln mm) X.hS hS8 p8 hP8 r1 (by omega) (fun p s hp hs => ⟨(r3 p s hp hs).trans (hl p s hp hs).1, (hl p s hp hs).2⟩) S FUEL 0 (by omega) (by unfold FUEL; omega)
        obtain ⟨τ3, v1, v2, v3⟩ := m_env (rec18 := s_Model_envy_18 f') (τ0 := stI τ 570 0 0) (p := p) (k := lkN (ln mm) p (τ.1 583 (4 * p))) hL hl X0.mP hP8 hS8 p8 X0.tm (by omega) (fun q hq => by rw [e83]; exact W.1.1 q hq) ⟨by rw [e77]; exact s2, s4⟩ k2 P FUEL 0 y τ' (by omega) (by unfold FUEL; omega) s1 t3
        rw [e83] at v3
        have same := ev_same (σ := σ) (S := S) (P := P) (lm := ln mm) (p := p) (z := lkN (ln mm) p (τ.1 583 (4 * p)) + sn p) (A := τ.1 583) hS8 hP8 p8 (fun s hs => R.c5 s hs)
        rw [nI_0] at ec v3
        rcases ec with ⟨c2, c3⟩ | ⟨c2, c3⟩
        · rcases v3 with ⟨v4, v5⟩ | ⟨v4, v5⟩
          · obtain ⟨q', h1, h2, h3⟩ := same.mp c3
            exact absurd h3 (v5 q' h1 h2)
          · rw [c2] at uC
            simp only at uC
            rw [if_neg (show ¬ (1 : Int32) = 0 by decide)] at uC
            obtain ⟨r', τ2, i1, i2, i3, i4⟩ := ih f f' (p + 1) (y ||| (1 <<< (nI p &&& 31))) τ3 (by omega) (by omega) (by omega) v1 v2
            refine ⟨r', τ2, uC.trans ?_, (uM.trans v4).trans i2, i3, i4⟩
            unfold s_Main_envy_38
            simp only [xl]
            rw [nI_1]
            exact i1
        · rcases v3 with ⟨v4, v5⟩ | ⟨v4, v5⟩
          · rw [c2] at uC
            simp only at uC
            rw [if_pos trivial] at uC
            obtain ⟨r', τ2, i1, i2, i3, i4⟩ := ih f f' (p + 1) y τ3 (by omega) (by omega) (by omega) v1 v2
            exact ⟨r', τ2, (uC.trans stay).trans i1, (uM.trans v4).trans i2, i3, i4⟩
          · obtain ⟨s', h1, h2, h3⟩ := same.mpr v5
            exact absurd h3 (c3 s' h1 h2)
  have eC : s_Main_envy σ = if P = 0 then some (-1, σ) else s_Main_envy_13 FUEL 0 0 σ := by
    unfold s_Main_envy
    rw [g_hasRoom X]
    simp only [xb2, ite01]
  have eM : s_Model_envy τ = if P = 0 then some (-1, stI τ 570 0 0) else s_Model_envy_18 FUEL 0 0 (stI τ 570 0 0) := by
    unfold s_Model_envy
    simp only [xl, m_noRoom X0]
  by_cases q : P = 0
  · rw [if_pos q] at eC eM
    exact QR.no X hD _ eC eM
  · rw [if_neg q] at eC eM
    obtain ⟨r', τ2, i1, i2, i3, i4⟩ := loop P FUEL FUEL 0 0 (stI τ 570 0 0) (by omega) (by unfold FUEL; omega) (by unfold FUEL; omega) SE.rf X0.it
    rw [nI_0] at i1 i2
    exact ⟨r', σ, τ2, eC.trans i1, eM.trans i2, FR.rf, FT.z.tr i3.ft, ⟨X.fin.1, X.fin.2.1, by rw [i3.fld (by omega)]; exact X0.fin.2.2.1, by rw [i3.fld (by omega)]; exact X0.fin.2.2.2⟩, i4⟩
end
