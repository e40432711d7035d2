/-! class and model: a minute in step -/
theorem joy_o {L : Nat → Nat → Int32} {j : Nat} : ∀ (m k : Nat) (A : Nat → Int32), (∀ p, p < k + m → j ≠ 4 * p + 3) → itr (mJoy L) m k A j = A j := by
  intro m
  induction m with
  | zero => intro k A _; rfl
  | succ m ih =>
    intro k A h
    show itr (mJoy L) m (k + 1) (mJoy L k A) j = A j
    rw [ih (k + 1) _ (fun p hp => h p (by omega))]
    unfold mJoy
    split
    · rfl
    · exact pk_un (h k (by omega))
theorem st_joy1 {S P mm p : Nat} {tb L : Nat → Nat → Int32} {w : Wd} {A : Nat → Int32} (hS8 : S ≤ 8) (hP8 : P ≤ 8) (hp : p < P) (hL : ∀ p s, p < P → s < S → tb p s = L p s) (hx : plc S (A (4 * p))) (hR : Rw S P w A) : Rw S P (wJoyF tb 1 p w) (mJoy L p A) := by
  unfold wJoyF
  rw [hR.c1 p hp, hR.c4 p hp, Int32.one_mul, lkx_cg hL hS8 hp hx]
  have h1 := hR.col4 (v := A (4 * p + 3) + lkx L p (A (4 * p))) hS8 hP8 hp
  unfold mJoy
  by_cases q : A (4 * p) = -2
  · rw [if_pos q]
    refine h1.cg hS8 hP8 (fun j _ => ?_) rfl rfl rfl rfl rfl rfl rfl rfl
    rw [upd_e]
    by_cases e : j = 4 * p + 3
    · rw [if_pos e, e, q, show lkx L p (-2) = 0 from if_pos (by decide), Int32.add_zero]
    · rw [if_neg e]
  · rw [if_neg q]
    exact h1
theorem st_joy {S P : Nat} {tb L : Nat → Nat → Int32} (hS8 : S ≤ 8) (hP8 : P ≤ 8) (hL : ∀ p s, p < P → s < S → tb p s = L p s) : ∀ (m k : Nat) (w : Wd) (A : Nat → Int32), k + m ≤ P → (∀ p, p < P → plc S (A (4 * p))) → Rw S P w A → Rw S P (itr (wJoyF tb 1) m k w) (itr (mJoy L) m k A) := by
  intro m
  induction m with
  | zero => intro k w A _ _ h; exact h
  | succ m ih =>
    intro k w A hk hx h
    refine ih (k + 1) _ _ (by omega) (fun p hp => ?_) (st_joy1 (mm := 0) hS8 hP8 (by omega) hL (hx k (by omega)) h)
    unfold mJoy
    split
    · exact hx p hp
    · rw [pk_un (by omega)]; exact hx p hp
theorem wJoy_c {tb : Nat → Nat → Int32} {z : Int32} {c : Nat} (hc : c ≠ 4) : ∀ (m k : Nat) (w : Wd), itr (wJoyF tb z) m k w c = w c := by
  intro m
  induction m with
  | zero => intro k w; rfl
  | succ m ih =>
    intro k w
    show itr (wJoyF tb z) m (k + 1) (wJoyF tb z k w) c = w c
    rw [ih]
    exact u2_c hc
/-- the minute goes by -/
theorem WI.next {S P mm : Nat} {A B : Nat → Int32} (h : WI S P mm A) (hS8 : S ≤ 8) (hP8 : P ≤ 8) (hm : mm < 101) (hN : NK S mm A) (hC : ∀ j, j < P → cmB A j = false) (h48 : B 48 = nI (mm + 1)) (hB : ∀ j, j < 50 → j ≠ 48 → (∀ p, p < P → j ≠ 4 * p + 3) → B j = A j) : WI S P (mm + 1) B := by
  obtain ⟨h1, h2, h3, h4, h5⟩ := h
  have e0 : ∀ p, p < P → B (4 * p) = A (4 * p) := fun p hp => hB _ (by omega) (by omega) (fun q _ => by omega)
  have e1 : ∀ p, p < P → B (4 * p + 1) = A (4 * p + 1) := fun p hp => hB _ (by omega) (by omega) (fun q _ => by omega)
  have e2 : ∀ p, p < P → B (4 * p + 2) = A (4 * p + 2) := fun p hp => hB _ (by omega) (by omega) (fun q _ => by omega)
  have e6 : ∀ s, s < S → B (32 + 2 * s) = A (32 + 2 * s) := fun s hs => hB _ (by omega) (by omega) (fun q _ => by omega)
  have e7 : ∀ s, s < S → B (32 + 2 * s + 1) = A (32 + 2 * s + 1) := fun s hs => hB _ (by omega) (by omega) (fun q _ => by omega)
  have e49 : B 49 = A 49 := hB _ (by omega) (by omega) (fun q _ => by omega)
  refine ⟨⟨fun p hp => by rw [e0 p hp]; exact h1.1 p hp, h48, by rw [e49]; exact h1.2.2⟩, fun p hp => ?_, fun p hp => by rw [e2 p hp]; exact h3 p hp, fun s hs => ?_, fun s hs z p hp => ?_⟩
  · rw [e0 p hp, e1 p hp]
    rcases h2 p hp with ⟨z1, t, z2, z3, z4⟩ | z
    · refine Or.inl ⟨z1, t, z2, ?_, z4⟩
      have hc := hC p hp
      have hc2 : ¬ (A (4 * p) = -2 ∧ A (4 * p + 1) = A 48) := of_decide_eq_false hc
      have : t ≠ mm := fun e => hc2 ⟨z1, by rw [z2, e]; exact h1.2.1.symm⟩
      omega
    · exact Or.inr z
  · rw [e6 s hs, e7 s hs]
    rcases h4 s hs with z | ⟨p, hp, t, z1, z2, z3, z4⟩
    · exact Or.inl z
    · refine Or.inr ⟨p, hp, t, z1, z2, ?_, z4⟩
      have : t ≠ mm := fun e => hN s hs (by rw [z2, e])
      omega
  · rw [e6 s hs] at z
    rw [e0 p hp]
    exact h5 s hs z p hp
/-- what settled says -/
def SOK (σ : LH) (S P n : Nat) (w : Wd) : Prop := w 0 10 = -1 ∨ ∃ n' r', n' ≤ n ∧ r' < 100 ∧ w 0 10 = nI (n' * 128 + r') ∧ (n' = n → (pickC σ S P r' w).2 = none)
theorem SOK.kst {σ : LH} {S P n : Nat} {w w' : Wd} (h : SOK σ S P n w) (hk : Kst w w') : SOK σ S P n w' := by
  rcases hk.1 with e | e
  · rw [e]; exact h
  · exact Or.inl e
theorem pickC_cg {σ : LH} {S P r : Nat} {w w' : Wd} (h1 : w' 1 = w 1) (h5 : w' 5 = w 5) (h6 : w' 6 = w 6) (hx : ∀ p, p < P → plc S (w 1 p)) (hS8 : S ≤ 8) : pickC σ S P r w' = pickC σ S P r w :=
  mvR_cg (fun s hs => tkR_cg (fun _ _ _ _ => rfl) (fun _ _ => rfl) (fun _ _ => rfl) (fun _ _ => rfl) (fun p _ => by rw [h1]) hx hS8 hs P 0 none 0 (by omega) (fun j hj => by cases hj)) (fun _ _ => rfl) (fun _ _ => by rw [h5]) (fun _ _ => by rw [h6]) S 0 none none (by omega) (fun j hj => by cases hj)
/-- both sides stand for one room, one set of likings, one set of goings -/
def LK (σ τ : LH) (S P n0 ne n eN : Nat) (go ex : Nat → Nat) (who : Option Nat) (L : Nat → Nat → Nat → Int32) (ln : Nat → Nat → Nat → Nat) (qn sn : Nat → Nat) : Prop := CFix σ S P n0 go who n ∧ MGo τ S P n0 ne go ex ∧ FX σ τ S P ∧ GL τ (σ.1 13) (σ.1 14) (σ.1 38 2) n0 ∧ EL τ who (σ.1 38 4) (σ.1 38 5) ne ex ∧ (∀ p, p < P → qM τ p = nI (qn p) ∧ qn p < 10) ∧ (∀ p, p < P → sM τ p = nI (sn p) ∧ 1 ≤ sn p ∧ sn p < 1000) ∧ (∀ m, m < eN → ∃ r, r < 100 ∧ σ.1 35 m = nI r ∧ ∀ p s, p < P → s < S → tbC σ r p s = L m p s) ∧ (∀ m, m < 100 → LKr (L m) (ln m) S P) ∧ n < 2 ^ 20
theorem st_half {σ τ : LH} {S P n0 ne n eN r mm : Nat} {go ex : Nat → Nat} {who : Option Nat} {L : Nat → Nat → Nat → Int32} {ln : Nat → Nat → Nat → Nat} {qn sn : Nat → Nat} (K : LK σ τ S P n0 ne n eN go ex who L ln qn sn) (hm : mm < 100) (hr : ∀ p s, p < P → s < S → tbC σ r p s = L mm p s) {w : Wd} {A : Nat → Int32} (hR : Rw S P w A) (hW : WI S P mm A) : QQ S P mm w A (wHalf σ S P n0 go who r w) (mHalf (L mm) τ S P n0 ne go ex (A 48) A) ∧ ∀ j, j < P → cmB (mHalf (L mm) τ S P n0 ne go ex (A 48) A) j = false := by
  obtain ⟨C, G, F, hGL, hEL, hq, hs, hT, hl, hn⟩ := K
  have hS8 : S ≤ 8 := C.2.1
  have hP8 : P ≤ 8 := C.2.2.2.1
  have e48 : A 48 = nI mm := hW.1.2.1
  have h1 := st_rel2 (w0 := w) (A0 := A) hS8 hP8 (by omega : mm < 101) hR hW
  have hgo : ∀ g, g < n0 → go g < P := fun g hg => (C.2.2.2.2.2.2.1 g hg).2
  have h2 := q_itr (st_out (w0 := w) (A0 := A) hS8 hP8 (by omega : mm < 101) hGL hgo) n0 0 _ _ (by omega) h1
  have hex : ∀ e, e < ne → ex e < P := fun e he => (G.2.2.2.2.2.2.2.2.2.1 e he).2
  have h3 := st_ex hS8 hP8 (by omega : mm < 101) hEL hex h2
  have h4 := st_backs (tb := tbC σ r) (L := L mm) (q := σ.1 9) (qm := qM τ) (qn := qn) hS8 hP8 (by omega : mm < 101) hr (fun p hp => ⟨(F.2.2.1 p hp).trans (hq p hp).1, (hq p hp).2⟩) (fun p hp => (hq p hp).1) h3
  unfold wHalf mHalf
  rw [e48]
  exact h4
theorem mark_ij {n n' r r' : Nat} (hn : n < 2 ^ 20) (hn' : n' ≤ n) (hr : r < 100) (hr' : r' < 100) (h : nI (n' * 128 + r') = nI (n * 128 + r)) : n' = n ∧ r' = r := by
  have := nI_ij (by omega) (by omega) h
  omega
/-- a minute, in step -/
theorem st_minute {σ τ : LH} {h S P n0 ne n eN mm M : Nat} {go ex : Nat → Nat} {who : Option Nat} {L : Nat → Nat → Nat → Int32} {ln : Nat → Nat → Nat → Nat} {qn sn : Nat → Nat} (K : LK σ τ S P n0 ne n eN go ex who L ln qn sn) (h39 : 39 ≤ h) (hm : mm < 100) (hmN : mm < eN) {w : Wd} {A : Nat → Int32} (hR : Rw S P w A) (hW : WI S P mm A) (hO : SOK σ S P n w) (hM : w 0 8 = nI M) (hM2 : M < 2 ^ 29) (v : Int32) : ∃ w' A' d r, d < 1000 ∧ s_Evening_pass h (sH σ h w) = some (sH σ h w') ∧ mMin L τ S P n0 ne go ex 1000 mm A v = some (A', v + nI d) ∧ Rw S P w' A' ∧ WI S P (mm + 1) A' ∧ SOK σ S P n w' ∧ w' 0 8 = nI (M + d) ∧ (Lg w A M → Lg w' A' (M + d)) ∧ r < 100 ∧ σ.1 35 mm = nI r ∧ w' 0 10 = nI (n * 128 + r) := by
  have K0 := K
  obtain ⟨C, G, F, hGL, hEL, hq, hs, hT, hl, hn⟩ := K
  have hS8 : S ≤ 8 := C.2.1
  have hP8 : P ≤ 8 := C.2.2.2.1
  obtain ⟨r, hr1, hr2, hr3⟩ := hT mm hmN
  obtain ⟨⟨hR2, hW2, hN2, hK2, hA2⟩, hC2⟩ := st_half K0 hm hr3 hR hW
  have hM3 : wHalf σ S P n0 go who r w 0 8 = nI M := hK2.2.2.trans hM
  have hO2 := hO.kst hK2
  have em : w 0 7 = nI mm := hR.m.trans hW.1.2.1
  have key : ∃ w2 A2 d, d < 1000 ∧ wMoves σ S P r n (wHalf σ S P n0 go who r w) w2 ∧ muA (pickM (L mm) τ S P) 1000 (mHalf (L mm) τ S P n0 ne go ex (A 48) A) v = some (A2, v + nI d) ∧ Rw S P w2 A2 ∧ WI S P mm A2 ∧ NK S mm A2 ∧ (∀ j, j < P → cmB A2 j = false) ∧ (pickC σ S P r w2).2 = none ∧ w2 0 8 = nI (M + d) ∧ (Lg w A M → Lg w2 A2 (M + d)) ∧ w2 0 10 = nI (n * 128 + r) := by
    have lg0 : Lg w A M → Lg (wHalf σ S P n0 go who r w) (mHalf (L mm) τ S P n0 ne go ex (A 48) A) M := fun ⟨g1, g2, g3⟩ => ⟨hM3, (hA2 49 (by omega)).trans g2, fun i c hi hc => by rw [hK2.2.1, hA2 _ (by omega)]; exact g3 i c hi hc⟩
    generalize wHalf σ S P n0 go who r w = w1 at hR2 hW2 hN2 hK2 hM3 hO2 lg0 ⊢
    generalize mHalf (L mm) τ S P n0 ne go ex (A 48) A = A1 at hR2 hW2 hN2 hC2 lg0 ⊢
    by_cases q : w1 0 10 = nI (n * 128 + r)
    · have hno : (pickC σ S P r w1).2 = none := by
        rcases hO2 with z | ⟨n', r', z1, z2, z3, z4⟩
        · rw [z] at q; exact absurd q.symm (nI_m1 (by omega))
        · obtain ⟨g1, g2⟩ := mark_ij hn z1 hr1 z2 (z3.symm.trans q)
          subst g2
          exact z4 g1
      refine ⟨w1, A1, 0, by omega, Or.inl ⟨q, rfl⟩, ?_, hR2, hW2, hN2, hC2, hno, hM3, lg0, q⟩
      have hpe := pick_eq hS8 F hr3 hR2 hW2
      show muA (pickM (L mm) τ S P) (999 + 1) A1 v = some (A1, v + 0)
      unfold muA
      rw [Int32.add_zero]
      rw [hpe] at hno
      cases hpk : pickM (L mm) τ S P A1 with
      | mk s t =>
        rw [hpk] at hno
        simp only at hno
        subst hno
        cases s <;> rfl
    · have hpt := pot_le (ln := ln mm) (A := A1) hS8 hP8
      obtain ⟨w2, A2, d, d1, d2, d3, d4, d5, d6, d7, d8, d9, d10⟩ := st_moves (σ := σ) (τ := τ) hS8 hP8 (by omega : mm < 101) F hr3 (hl mm hm) hs 1000 w1 A1 M v (by omega) hR2 hW2 hN2 hC2
      have hcl : (w1 0 8).toNatClampNeg = M := by rw [hM3]; exact nI_clamp (by omega)
      refine ⟨u2 w2 0 10 (nI (n * 128 + r)), A2, d, d1, Or.inr ⟨q, w2, M + d, by rw [hcl]; exact d2, rfl⟩, d3, d4.cg hS8 hP8 (fun _ _ => rfl) (u2_c (by omega)) (u2_c (by omega)) (u2_c (by omega)) (u2_c (by omega)) (u2_c (by omega)) (u2_c (by omega)) (u2_c (by omega)) (u2_i (by omega)), d5, d6, d7, ?_, ?_, fun hlg => ?_, u2_s⟩
      · rw [pickC_cg (u2_c (by omega)) (u2_c (by omega)) (u2_c (by omega)) (fun p hp => by rw [d4.c1 p hp]; exact d5.1.1 p hp) hS8]
        exact d8
      · rw [u2_i (by omega)]; exact d9 hM3
      · obtain ⟨g1, g2, g3⟩ := d10 (lg0 hlg)
        exact ⟨by rw [u2_i (by omega)]; exact g1, g2, fun i c hi hc => by rw [u2_c (by omega)]; exact g3 i c hi hc⟩
  obtain ⟨w2, A2, d, d1, d2, d3, d4, d5, d6, d7, d8, d9, d10, d11⟩ := key
  have hpl : ∀ p, p < P → plc S (w2 1 p) := fun p hp => by rw [d4.c1 p hp]; exact d5.1.1 p hp
  have pass := e_pass h39 C em hm hr2 hr1 d2 (fun p hp => plc8 hS8 (by rw [hR2.c1 p hp]; exact hW2.1.1 p hp)) hM3 hM2 (fun p hp => plc8 hS8 (hpl p hp)) (d4.m.trans d5.1.2.1)
  have jR := st_joy (tb := tbC σ r) (L := L mm) hS8 hP8 hr3 P 0 w2 A2 (by omega) (fun p hp => d5.1.1 p hp) d4
  have jc : ∀ c, c ≠ 4 → itr (wJoyF (tbC σ r) 1) P 0 w2 c = w2 c := fun c hc => wJoy_c hc P 0 w2
  have fR : Rw S P (u2 (itr (wJoyF (tbC σ r) 1) P 0 w2) 0 7 (nI (mm + 1))) (upd (itr (mJoy (L mm)) P 0 A2) 48 (nI (mm + 1))) := by
    obtain ⟨c1, c2, c3, c4, c5, c6, c7, c8⟩ := jR
    refine ⟨fun p hp => ?_, fun p hp => ?_, fun p hp => ?_, fun p hp => ?_, fun s hs => ?_, fun s hs => ?_, fun s hs => ?_, ?_⟩
    · rw [u2_c (by omega), pk_un (by omega)]; exact c1 p hp
    · rw [u2_c (by omega), pk_un (by omega)]; exact c2 p hp
    · rw [u2_c (by omega), pk_un (by omega)]; exact c3 p hp
    · rw [u2_c (by omega), pk_un (by omega)]; exact c4 p hp
    · rw [u2_c (by omega)]; exact (c5 s hs).cg (fun p hp => pk_un (by omega))
    · rw [u2_c (by omega), pk_un (by omega)]; exact c6 s hs
    · rw [u2_c (by omega), pk_un (by omega)]; exact c7 s hs
    · rw [u2_s, pk_us]
  have f10 : u2 (itr (wJoyF (tbC σ r) 1) P 0 w2) 0 7 (nI (mm + 1)) 0 10 = nI (n * 128 + r) := by rw [u2_i (by omega), jc 0 (by omega)]; exact d11
  have f8 : u2 (itr (wJoyF (tbC σ r) 1) P 0 w2) 0 7 (nI (mm + 1)) 0 8 = nI (M + d) := by rw [u2_i (by omega), jc 0 (by omega)]; exact d9
  refine ⟨_, upd (itr (mJoy (L mm)) P 0 A2) 48 (nI (mm + 1)), d, r, d1, pass, ?_, fR, ?_, ?_, f8, fun hlg => ?_, hr1, hr2, f10⟩
  · unfold mMin
    rw [d3]
    rfl
  · exact d5.next hS8 hP8 (by omega) d6 d7 pk_us (fun j hj q1 q2 => by rw [pk_un q1]; exact joy_o P 0 A2 (fun p hp => q2 p (by omega)))
  · refine Or.inr ⟨n, r, Nat.le_refl _, hr1, f10, fun _ => ?_⟩
    rw [pickC_cg (w := w2) (by rw [u2_c (by omega), jc 1 (by omega)]) (by rw [u2_c (by omega), jc 5 (by omega)]) (by rw [u2_c (by omega), jc 6 (by omega)]) hpl hS8]
    exact d8
  · obtain ⟨g1, g2, g3⟩ := d10 hlg
    refine ⟨f8, ?_, fun i c hi hc => ?_⟩
    · rw [pk_un (by omega), joy_o P 0 A2 (fun p hp => by omega)]; exact g2
    · rw [u2_c (by omega), jc 8 (by omega), pk_un (by omega), joy_o P 0 A2 (fun p hp => by omega)]; exact g3 i c hi hc
