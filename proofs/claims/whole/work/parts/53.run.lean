/-! class and model: many minutes in step -/
/-- rows and tills -/
def TL (σ : LH) (eN : Nat) : Prop := (∀ m, m < 100 → ∃ r, r < 100 ∧ σ.1 35 m = nI r) ∧ ∀ m, 0 < m → m < eN → ∃ t, t ≤ eN ∧ σ.1 36 m = nI t ∧ m < t ∧ ∀ j, m ≤ j → j < t → σ.1 35 j = σ.1 35 m
theorem st_run {σ τ : LH} {h S P n0 ne n eN E : Nat} {go ex : Nat → Nat} {who : Option Nat} {L : Nat → Nat → Nat → Int32} {ln : Nat → Nat → Nat → Nat} {qn sn : Nat → Nat} {u : Int32} (K : LK σ τ S P n0 ne n eN go ex who L ln qn sn) (T : TL σ eN) (h39 : 39 ≤ h) (hE : E < eN) (heN : eN ≤ 100) : ∀ (k mm c f M : Nat) (w : Wd) (A : Nat → Int32) (v : Int32), mm + k = E → c ≤ mm → k < f → Rw S P w A → WI S P mm A → SOK σ S P n w → w 0 8 = nI M → M + 1000 * k < 2 ^ 29 → ∃ w' A' d, d ≤ 1000 * k ∧ s_Evening_run_26 h u f (nI E) (nI c) (sH σ h w) = some (sH σ h w') ∧ mRun L τ S P n0 ne go ex 1000 k mm A v = some (A', v + nI d) ∧ Rw S P w' A' ∧ WI S P E A' ∧ SOK σ S P n w' ∧ w' 0 8 = nI (M + d) ∧ (Lg w A M → Lg w' A' (M + d)) := by
  have K0 := K
  obtain ⟨C, G, F, hGL, hEL, hq, hs, hT, hl, hn⟩ := K
  have hS8 : S ≤ 8 := C.2.1
  have hP8 : P ≤ 8 := C.2.2.2.1
  intro k
  induction k using Nat.strongRecOn with
  | _ k ih =>
    intro mm c f M w A v hk hc hf hR hW hO hM hM2
    obtain ⟨f, rfl⟩ : ∃ q, f = q + 1 := ⟨f - 1, by omega⟩
    have em : w 0 7 = nI mm := hR.m.trans hW.1.2.1
    rw [s_Evening_run_26]
    unfold s_Evening_run_26_b
    rw [if_neg (show ¬ (100 : Int32) ≤ nI c from nI_ge (b := 100) (by omega) (by omega)), sH_in0, em]
    by_cases q0 : k = 0
    · subst q0
      have : mm = E := by omega
      subst this
      rw [if_pos (Int32.le_refl _)]
      exact ⟨w, A, 0, by omega, rfl, by show some (A, v) = some (A, v + 0); rw [Int32.add_zero], hR, hW, hO, hM, fun z => z⟩
    · rw [if_neg (nI_ge (by omega) (by omega))]
      obtain ⟨w1, A1, d1, r, e0, e1, e2, R1, W1, O1, M1, L1, r1, r2, r3⟩ := st_minute K0 h39 (by omega : mm < 100) (by omega) hR hW hO hM (by omega) v
      rw [e1]
      simp only [xb1]
      obtain ⟨t, t1, t2, t3, t4⟩ := e_calmTill (E := E) h39 C T.1 (R1.m.trans W1.1.2.1) (by omega) (by omega)
      rw [t3]
      simp only [xb2]
      rw [sH_in0, R1.m.trans W1.1.2.1]
      obtain ⟨k, rfl⟩ : ∃ q, k = q + 1 := ⟨k - 1, by omega⟩
      have run1 : ∀ (a b : Nat), a + b = k → mRun L τ S P n0 ne go ex 1000 (k + 1) mm A v = (mRun L τ S P n0 ne go ex 1000 a (mm + 1) A1 (v + nI d1)).bind fun r => mRun L τ S P n0 ne go ex 1000 b (mm + 1 + a) r.1 r.2 := fun a b hab => by
        show (mMin L τ S P n0 ne go ex 1000 mm A v).bind (fun r => mRun L τ S P n0 ne go ex 1000 k (mm + 1) r.1 r.2) = _
        rw [e2]
        show mRun L τ S P n0 ne go ex 1000 k (mm + 1) A1 (v + nI d1) = _
        rw [← hab, mRun_add]
      by_cases q1 : t = mm + 1
      · rw [if_pos (show nI t ≤ nI (mm + 1) by rw [q1]; exact Int32.le_refl _)]
        unfold s_Evening_run_70
        simp only [xl]
        rw [nI_1]
        obtain ⟨w2, A2, d2, g0, g1, g2, g3, g4, g5, g6, g7⟩ := ih k (by omega) (mm + 1) (c + 1) f (M + d1) w1 A1 (v + nI d1) (by omega) (by omega) (by omega) R1 W1 O1 M1 (by omega)
        refine ⟨w2, A2, d1 + d2, by omega, g1, ?_, g3, g4, g5, by rw [g6, Nat.add_assoc], fun z => by rw [← Nat.add_assoc]; exact g7 (L1 z)⟩
        rw [run1 0 k (by omega)]
        show mRun L τ S P n0 ne go ex 1000 k (mm + 1) A1 (v + nI d1) = _
        rw [g2, Int32.add_assoc, nI_add]
      · rw [if_neg (nI_ge (by omega) (by omega))]
        obtain ⟨r', s1, s2, s3, s4⟩ := t4 (by omega)
        have hrr : r' = r := (mark_ij hn (Nat.le_refl _) r1 s1 (s3.symm.trans r3)).2
        subst hrr
        obtain ⟨tl, u0, u1, u2', u3⟩ := T.2 (mm + 1) (by omega) (by omega)
        have cf := calmV_facts (σ := σ) (S := S) (P := P) (n0 := n0) (who := who) (tl := σ.1 36 (mm + 1)) (w := w1) (nI_le (show mm + 1 ≤ E by omega) (by omega) : nI (mm + 1) ≤ nI E)
        rw [← s4] at cf
        obtain ⟨-, -, cf3, cf4, cf5, cf6, cf7⟩ := cf
        have ttl : t ≤ tl := by
          rw [u1] at cf3
          exact (nI_le1 (by omega) (by omega)).mp (cf3 (nI_le (by omega) (by omega)))
        have no : ∀ (x : Int32), (nI (mm + 1) ≤ x → nI t ≤ x) → ∀ j, mm + 1 ≤ j → j < t → x ≠ nI j := fun x hx j h1 h2 z => by
          rw [z] at hx
          have := (nI_le1 (by omega) (by omega)).mp (hx (nI_le h1 (by omega)))
          omega
        have hrow : ∀ j, mm + 1 ≤ j → j < t → ∀ p s, p < P → s < S → tbC σ r' p s = L j p s := fun j h1 h2 => by
          obtain ⟨rj, a1, a2, a3⟩ := hT j (by omega)
          have : σ.1 35 j = σ.1 35 (mm + 1) := u3 j h1 (by omega)
          rw [a2, s2] at this
          have := nI_ij (by omega) (by omega) this
          subst this
          exact a3
        have hpk : (pickC σ S P r' w1).2 = none := by
          rcases O1 with z | ⟨n', r'', z1, z2, z3, z4⟩
          · rw [z] at r3; exact absurd r3.symm (nI_m1 (by omega))
          · obtain ⟨g1, g2⟩ := mark_ij hn z1 r1 z2 (z3.symm.trans r3)
            subst g2
            exact z4 g1
        obtain ⟨A2, c1, c2, c3, c4⟩ := st_calm K0 (by omega : t ≤ 100) R1 W1 hpk (fun s hs => no _ (cf4 s hs)) (fun p hp => no _ (cf5 p hp)) (fun g hg => no _ (cf6 g hg)) (fun hw => by
          cases who with
          | none => exact absurd rfl hw
          | some p => exact no _ (cf7 p rfl)) hrow (v + nI d1) (t - (mm + 1)) (by omega)
        have hpl : ∀ p, p < P → plc S (w1 1 p) := fun p hp => by rw [R1.c1 p hp]; exact W1.1.1 p hp
        rw [e_enjoy h39 C.2.2.1 hP8 (R1.m.trans W1.1.2.1) (by omega) s2 s1 (fun p hp => plc8 hS8 (hpl p hp))]
        simp only
        unfold s_Evening_run_70
        simp only [xl]
        rw [nI_1]
        have esub : nI t - nI (mm + 1) = nI (t - (mm + 1)) := by
          have : nI t = nI (mm + 1) + nI (t - (mm + 1)) := by rw [nI_add, show mm + 1 + (t - (mm + 1)) = t by omega]
          rw [this, Int32.add_comm, Int32.add_sub_cancel]
        rw [esub]
        rw [show mm + 1 + (t - (mm + 1)) = t by omega] at c2 c3
        have jc : ∀ c, c ≠ 4 → itr (wJoyF (tbC σ r') (nI (t - (mm + 1)))) P 0 w1 c = w1 c := fun c hc => wJoy_c hc P 0 w1
        generalize hw2 : u2 (itr (wJoyF (tbC σ r') (nI (t - (mm + 1)))) P 0 w1) 0 7 (nI t) = w2 at c2 ⊢
        have w2c : ∀ c, c ≠ 4 → c ≠ 0 → w2 c = w1 c := fun c h4 h0 => by rw [← hw2, u2_c h0, jc c h4]
        have w2z : ∀ i, i ≠ 7 → w2 0 i = w1 0 i := fun i hi => by rw [← hw2, u2_i hi, jc 0 (by omega)]
        have O2 : SOK σ S P n w2 := by
          refine Or.inr ⟨n, r', Nat.le_refl _, s1, (w2z 10 (by omega)).trans s3, fun _ => ?_⟩
          rw [pickC_cg (w := w1) (w2c 1 (by omega) (by omega)) (w2c 5 (by omega) (by omega)) (w2c 6 (by omega) (by omega)) hpl hS8]
          exact hpk
        obtain ⟨w3, A3, d2, g0, g1, g2, g3, g4, g5, g6, g7⟩ := ih (E - t) (by omega) t (c + 1) f (M + d1) w2 A2 (v + nI d1) (by omega) (by omega) (by omega) c2 c3 O2 ((w2z 8 (by omega)).trans M1) (by omega)
        refine ⟨w3, A3, d1 + d2, by omega, g1, ?_, g3, g4, g5, by rw [g6, Nat.add_assoc], fun z => ?_⟩
        · rw [run1 (t - (mm + 1)) (E - t) (by omega), c1]
          show mRun L τ S P n0 ne go ex 1000 (E - t) (mm + 1 + (t - (mm + 1))) A2 (v + nI d1) = _
          rw [show mm + 1 + (t - (mm + 1)) = t by omega, g2, Int32.add_assoc, nI_add]
        · obtain ⟨l1, l2, l3⟩ := L1 z
          rw [← Nat.add_assoc]
          exact g7 ⟨(w2z 8 (by omega)).trans l1, (c4 49 (by omega)).trans l2, fun i c hi hc => by rw [w2c 8 (by omega) (by omega), c4 _ (by omega)]; exact l3 i c hi hc⟩
