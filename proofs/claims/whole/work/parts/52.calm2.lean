/-! class and model: calm minutes in step -/
theorem l_rowx {σ : LH} {mm : Nat} (hm : mm ≤ 100) (hr : ∀ m, m < 100 → ∃ r, r < 100 ∧ σ.1 35 m = nI r) : ∃ r, r < 100 ∧ s_Likings_row (nI mm) σ = some (nI r, σ) ∧ (mm < 100 → σ.1 35 mm = nI r) := by
  by_cases q : mm < 100
  · obtain ⟨r, h1, h2⟩ := hr mm q
    exact ⟨r, h1, by rw [l_row q, h2], fun _ => h2⟩
  · refine ⟨0, by omega, ?_, fun z => absurd z q⟩
    unfold s_Likings_row
    rw [if_neg (nI_pos (n := mm) (by omega)), if_pos (show (100 : Int32) ≤ nI mm from nI_le (a := 100) (by omega) (by omega))]
    rfl
theorem l_tillx {σ : LH} {mm : Nat} (hm : mm ≤ 100) : ∃ tl, s_Likings_till (nI mm) σ = some (tl, σ) ∧ (mm < 100 → tl = σ.1 36 mm) := by
  unfold s_Likings_till
  rw [if_neg (nI_pos (n := mm) (by omega))]
  by_cases q : mm < 100
  · rw [if_neg (show ¬ (100 : Int32) ≤ nI mm from nI_ge (b := 100) q (by omega)), if_pos (ib_nI q (by omega)), nI_clamp (show mm < 2 ^ 31 by omega)]
    exact ⟨_, rfl, fun _ => rfl⟩
  · rw [if_pos (show (100 : Int32) ≤ nI mm from nI_le (a := 100) (by omega) (by omega))]
    exact ⟨_, rfl, fun z => absurd z q⟩
theorem mrE_le {who : Option Nat} {lv mi y : Int32} : mrE who lv mi y ≤ y := by
  unfold mrE
  cases who with
  | none => exact Int32.le_refl _
  | some _ => exact erl_le
theorem mrE_ge {who : Option Nat} {lv mi y : Int32} (h : mi ≤ y) : mi ≤ mrE who lv mi y := by
  unfold mrE
  cases who with
  | none => exact h
  | some _ => exact erl_ge h
theorem calmV_facts {σ : LH} {S P n0 : Nat} {who : Option Nat} {mi last tl : Int32} {w : Wd} (hl : mi ≤ last) : mi ≤ calmV σ S P n0 who mi last tl w ∧ calmV σ S P n0 who mi last tl w ≤ last ∧ (mi ≤ tl → calmV σ S P n0 who mi last tl w ≤ tl) ∧ (∀ s, s < S → mi ≤ w 7 s → calmV σ S P n0 who mi last tl w ≤ w 7 s) ∧ (∀ p, p < P → mi ≤ w 2 p → calmV σ S P n0 who mi last tl w ≤ w 2 p) ∧ (∀ g, g < n0 → mi ≤ σ.1 13 g → calmV σ S P n0 who mi last tl w ≤ σ.1 13 g) ∧ (∀ p, who = some p → mi ≤ σ.1 38 4 → calmV σ S P n0 who mi last tl w ≤ σ.1 38 4) := by
  unfold calmV
  refine ⟨mrE_ge (erN_ge n0 0 _ (erN_ge P 0 _ (erN_ge S 0 _ (erl_ge hl)))), ?_, fun h => ?_, fun s hs h => ?_, fun p hp h => ?_, fun g hg h => ?_, fun p hp h => ?_⟩
  · exact Int32.le_trans mrE_le (Int32.le_trans (erN_le _ _ _) (Int32.le_trans (erN_le _ _ _) (Int32.le_trans (erN_le _ _ _) erl_le)))
  · exact Int32.le_trans mrE_le (Int32.le_trans (erN_le _ _ _) (Int32.le_trans (erN_le _ _ _) (Int32.le_trans (erN_le _ _ _) (erl_ev h))))
  · exact Int32.le_trans mrE_le (Int32.le_trans (erN_le _ _ _) (Int32.le_trans (erN_le _ _ _) (erN_ev h S 0 _ (by omega) (by omega))))
  · exact Int32.le_trans mrE_le (Int32.le_trans (erN_le _ _ _) (erN_ev h P 0 _ (by omega) (by omega)))
  · exact Int32.le_trans mrE_le (erN_ev h n0 0 _ (by omega) (by omega))
  · subst hp
    exact erl_ev h
theorem e_calmTill {σ : LH} {h S P n0 n mm E : Nat} {go : Nat → Nat} {who : Option Nat} {w : Wd} (h39 : 39 ≤ h) (C : CFix σ S P n0 go who n) (hr : ∀ m, m < 100 → ∃ r, r < 100 ∧ σ.1 35 m = nI r) (hm : w 0 7 = nI mm) (hmE : mm ≤ E) (hE : E ≤ 100) : ∃ t, mm ≤ t ∧ t ≤ E ∧ s_Evening_calmTill h (nI E) (sH σ h w) = some (nI t, sH σ h w) ∧ (mm < t → ∃ r, r < 100 ∧ σ.1 35 mm = nI r ∧ w 0 10 = nI (n * 128 + r) ∧ nI t = calmV σ S P n0 who (nI mm) (nI E) (σ.1 36 mm) w) := by
  have hn : σ.1 33 5 = nI n := C.2.2.2.2.2.2.2.2.2
  have hr' : ∀ m, m < 100 → ∃ r, r < 100 ∧ (sH σ h w).1 35 m = nI r := fun m hm => by rw [sH_lo (b := 35) (by omega)]; exact hr m hm
  obtain ⟨r, h1, h2, h3⟩ := l_rowx (σ := sH σ h w) (mm := mm) (by omega) hr'
  obtain ⟨tl, h4, h5⟩ := l_tillx (σ := sH σ h w) (mm := mm) (by omega)
  rw [sH_lo (b := 35) (by omega)] at h3
  rw [sH_lo (b := 36) (by omega)] at h5
  unfold s_Evening_calmTill
  rw [sH_in0, hm]
  simp only [xl]
  rw [h2]
  simp only [xb2]
  rw [l_mark h1 (by rw [sH_lo (b := 33) (by omega)]; exact hn)]
  simp only
  by_cases q : w 0 10 = nI (n * 128 + r)
  · rw [if_pos q, h4]
    simp only
    rw [e_earlier]
    simp only
    have e := e_calm47 (mi := nI mm) (last := nI E) (w := w) h39 C S FUEL 0 (erl (nI E) tl (nI mm)) (by omega) (by unfold FUEL; have := C.2.1; omega)
    rw [nI_0] at e
    have f := calmV_facts (σ := σ) (S := S) (P := P) (n0 := n0) (who := who) (tl := tl) (w := w) (nI_le hmE (by omega) : nI mm ≤ nI E)
    obtain ⟨t, e1, e2, e3⟩ := nI_btw (by omega) (by omega) f.1 f.2.1
    refine ⟨t, e2, e3, ?_, fun z => ⟨r, h1, h3 (by omega), q, ?_⟩⟩
    · rw [← e1]
      exact e
    · rw [← e1, h5 (by omega)]
  · rw [if_neg q]
    exact ⟨mm, Nat.le_refl _, hmE, rfl, fun z => absurd z (by omega)⟩
theorem itr_id {α : Type} {f : Nat → α → α} {n : Nat} {a : α} (h : ∀ k, k < n → f k a = a) : ∀ (m k : Nat), k + m ≤ n → itr f m k a = a := by
  intro m
  induction m with
  | zero => intro k _; rfl
  | succ m ih =>
    intro k hk
    show itr f m (k + 1) (f k a) = a
    rw [h k (by omega)]
    exact ih (k + 1) (by omega)
theorem bkO_id {L : Nat → Nat → Int32} {S P : Nat} {q : Nat → Int32} {A : Nat → Int32} (h : ∀ j, j < P → cmB A j = false) : ∀ n, bkO L S P q n A = A := by
  intro n
  induction n with
  | zero => rfl
  | succ n ih =>
    show bkO L S P q n (itr (mBk L S P q (nI n)) P 0 A) = A
    have e : ∀ k, k < P → mBk L S P q (nI n) k A = A := fun k hk => if_neg (fun z => absurd z.1 (of_decide_eq_false (h k hk)))
    rw [itr_id e P 0 (by omega)]
    exact ih
/-- nothing happens in a minute -/
theorem m_calm {τ : LH} {S P n0 ne j : Nat} {go ex : Nat → Nat} {L : Nat → Nat → Nat → Int32} {A : Nat → Int32} {v : Int32} (h48 : A 48 = nI j) (hN : NK S j A) (hC : ∀ i, i < P → cmB A i = false) (hg : ∀ g, g < n0 → τ.1 579 (3 * g + 1) ≠ nI j) (he : ∀ e, e < ne → τ.1 588 e ≠ nI j) (hp : (pickM (L j) τ S P A).2 = none) : mMin L τ S P n0 ne go ex 1000 j A v = some (upd (itr (mJoy (L j)) P 0 A) 48 (nI (j + 1)), v) := by
  have hh : mHalf (L j) τ S P n0 ne go ex (A 48) A = A := by
    unfold mHalf
    have e1 : ∀ k, k < S → mRl (nI j) k A = A := fun s hs => if_neg (hN s hs)
    have e2 : ∀ k, k < n0 → mOut τ go (nI j) k A = A := fun g hg2 => if_neg (fun z => hg g hg2 z.2)
    have e3 : ∀ k, k < ne → mEx τ ex (nI j) k A = A := fun e he2 => if_neg (he e he2)
    rw [h48, itr_id e1 S 0 (by omega), itr_id e2 n0 0 (by omega), itr_id e3 ne 0 (by omega)]
    exact bkO_id hC 10
  unfold mMin
  rw [hh]
  have : muA (pickM (L j) τ S P) 1000 A v = some (A, v) := by
    show muA (pickM (L j) τ S P) (999 + 1) A v = some (A, v)
    unfold muA
    cases hpk : pickM (L j) τ S P A with
    | mk s t =>
      rw [hpk] at hp
      simp only at hp
      subst hp
      cases s <;> rfl
  rw [this]
  rfl
theorem mRun_add {L : Nat → Nat → Nat → Int32} {τ0 : LH} {S P n0 ne : Nat} {go ex : Nat → Nat} {M b : Nat} : ∀ (a mm : Nat) (A : Nat → Int32) (v : Int32), mRun L τ0 S P n0 ne go ex M (a + b) mm A v = (mRun L τ0 S P n0 ne go ex M a mm A v).bind fun r => mRun L τ0 S P n0 ne go ex M b (mm + a) r.1 r.2 := by
  intro a
  induction a with
  | zero => intro mm A v; rw [Nat.zero_add]; rfl
  | succ a ih =>
    intro mm A v
    rw [show a + 1 + b = (a + b) + 1 by omega]
    show (mMin L τ0 S P n0 ne go ex M mm A v).bind (fun r => mRun L τ0 S P n0 ne go ex M (a + b) (mm + 1) r.1 r.2) = ((mMin L τ0 S P n0 ne go ex M mm A v).bind (fun r => mRun L τ0 S P n0 ne go ex M a (mm + 1) r.1 r.2)).bind _
    cases mMin L τ0 S P n0 ne go ex M mm A v with
    | none => rfl
    | some r =>
      show mRun L τ0 S P n0 ne go ex M (a + b) (mm + 1) r.1 r.2 = (mRun L τ0 S P n0 ne go ex M a (mm + 1) r.1 r.2).bind _
      rw [ih, show mm + 1 + a = mm + (a + 1) by omega]
theorem wJoy_4 {tb : Nat → Nat → Int32} {z : Int32} {p : Nat} : ∀ (m k : Nat) (w : Wd), itr (wJoyF tb z) m k w 4 p = if k ≤ p ∧ p < k + m then w 4 p + z * lkx tb p (w 1 p) else w 4 p := by
  intro m
  induction m with
  | zero => intro k w; rw [if_neg (by omega)]; rfl
  | succ m ih =>
    intro k w
    show itr (wJoyF tb z) m (k + 1) (wJoyF tb z k w) 4 p = _
    rw [ih]
    have e1 : wJoyF tb z k w 1 = w 1 := u2_c (by omega)
    rw [e1]
    by_cases e : p = k
    · subst e
      rw [if_neg (by omega), if_pos (by omega)]
      exact u2_s
    · have e4 : wJoyF tb z k w 4 p = w 4 p := u2_i e
      rw [e4]
      by_cases q : k + 1 ≤ p ∧ p < k + 1 + m
      · rw [if_pos q, if_pos (by omega)]
      · rw [if_neg q, if_neg (by omega)]
/-- minutes in which nothing happens -/
theorem st_calm {σ τ : LH} {S P n0 ne n eN mm t r : Nat} {go ex : Nat → Nat} {who : Option Nat} {L : Nat → Nat → Nat → Int32} {ln : Nat → Nat → Nat → Nat} {qn sn : Nat → Nat} (K : LK σ τ S P n0 ne n eN go ex who L ln qn sn) (ht : t ≤ 100) {w : Wd} {A : Nat → Int32} (hR : Rw S P w A) (hW : WI S P mm A) (hpk : (pickC σ S P r w).2 = none) (h7 : ∀ s, s < S → ∀ j, mm ≤ j → j < t → w 7 s ≠ nI j) (h2 : ∀ p, p < P → ∀ j, mm ≤ j → j < t → w 2 p ≠ nI j) (hg : ∀ g, g < n0 → ∀ j, mm ≤ j → j < t → σ.1 13 g ≠ nI j) (he : who ≠ none → ∀ j, mm ≤ j → j < t → σ.1 38 4 ≠ nI j) (hrow : ∀ j, mm ≤ j → j < t → ∀ p s, p < P → s < S → tbC σ r p s = L j p s) (v : Int32) : ∀ d, mm + d ≤ t → ∃ A', mRun L τ S P n0 ne go ex 1000 d mm A v = some (A', v) ∧ Rw S P (u2 (itr (wJoyF (tbC σ r) (nI d)) P 0 w) 0 7 (nI (mm + d))) A' ∧ WI S P (mm + d) A' ∧ ∀ j, 49 ≤ j → A' j = A j := by
  have K0 := K
  obtain ⟨C, G, F, hGL, hEL, hq, hs, hT, hl, hn⟩ := K
  have hS8 : S ≤ 8 := C.2.1
  have hP8 : P ≤ 8 := C.2.2.2.1
  intro d
  induction d with
  | zero =>
    intro _
    refine ⟨A, rfl, ?_, hW, fun _ _ => rfl⟩
    obtain ⟨c1, c2, c3, c4, c5, c6, c7, c8⟩ := hR
    have z0 : ∀ x : Int32, nI 0 * x = 0 := fun x => by rw [nI_0, Int32.zero_mul]
    refine ⟨fun p hp => ?_, fun p hp => ?_, fun p hp => ?_, fun p hp => ?_, fun s hs => ?_, fun s hs => ?_, fun s hs => ?_, ?_⟩
    · rw [u2_c (by omega), wJoy_c (by omega)]; exact c1 p hp
    · rw [u2_c (by omega), wJoy_c (by omega)]; exact c2 p hp
    · rw [u2_c (by omega), wJoy_c (by omega)]; exact c3 p hp
    · rw [u2_c (by omega), wJoy_4, if_pos (by omega), z0, Int32.add_zero]; exact c4 p hp
    · rw [u2_c (by omega), wJoy_c (by omega)]; exact c5 s hs
    · rw [u2_c (by omega), wJoy_c (by omega)]; exact c6 s hs
    · rw [u2_c (by omega), wJoy_c (by omega)]; exact c7 s hs
    · rw [u2_s]; exact hW.1.2.1.symm
  | succ d ih =>
    intro hd
    obtain ⟨A1, e1, R1, W1, hi1⟩ := ih (by omega)
    have hL := hrow (mm + d) (by omega) (by omega)
    have jc : ∀ (z : Int32) (c : Nat), c ≠ 4 → itr (wJoyF (tbC σ r) z) P 0 w c = w c := fun z c hc => wJoy_c hc P 0 w
    have b7 : ∀ s, s < S → A1 (32 + 2 * s + 1) = w 7 s := fun s hs => by rw [← R1.c7 s hs, u2_c (by omega), jc _ 7 (by omega)]
    have b2 : ∀ p, p < P → A1 (4 * p + 1) = w 2 p := fun p hp => by rw [← R1.c2 p hp, u2_c (by omega), jc _ 2 (by omega)]
    have N1 : NK S (mm + d) A1 := fun s hs => by rw [b7 s hs]; exact h7 s hs _ (by omega) (by omega)
    have C1 : ∀ i, i < P → cmB A1 i = false := fun i hi => decide_eq_false (fun z => h2 i hi (mm + d) (by omega) (by omega) (by rw [← b2 i hi, z.2]; exact W1.1.2.1))
    have p1 : (pickM (L (mm + d)) τ S P A1).2 = none := by
      rw [← pick_eq hS8 F hL R1 W1, pickC_cg (w := w) (by rw [u2_c (by omega), jc _ 1 (by omega)]) (by rw [u2_c (by omega), jc _ 5 (by omega)]) (by rw [u2_c (by omega), jc _ 6 (by omega)]) (fun p hp => by have := W1.1.1 p hp; rw [← R1.c1 p hp, u2_c (by omega), jc _ 1 (by omega)] at this; exact this) hS8]
      exact hpk
    have g1 : ∀ g, g < n0 → τ.1 579 (3 * g + 1) ≠ nI (mm + d) := fun g hg2 => by rw [← (hGL g hg2).1]; exact hg g hg2 _ (by omega) (by omega)
    have x1 : ∀ e, e < ne → τ.1 588 e ≠ nI (mm + d) := fun e he2 => by
      rcases hEL with ⟨-, z⟩ | ⟨p, d', z1, z2, z3, z4, -⟩
      · omega
      · have : e = 0 := by omega
        subst this
        rw [z4]
        exact he (by rw [z1]; simp) _ (by omega) (by omega)
    have cm := m_calm (go := go) (ex := ex) (v := v) W1.1.2.1 N1 C1 g1 x1 p1
    refine ⟨upd (itr (mJoy (L (mm + d))) P 0 A1) 48 (nI (mm + d + 1)), ?_, ?_, ?_, fun j hj => ?_⟩
    · rw [mRun_add, e1]
      show (mMin L τ S P n0 ne go ex 1000 (mm + d) A1 v).bind (fun r => mRun L τ S P n0 ne go ex 1000 0 (mm + d + 1) r.1 r.2) = _
      rw [cm]
      rfl
    · have J := st_joy (tb := tbC σ r) (L := L (mm + d)) hS8 hP8 hL P 0 _ A1 (by omega) (fun p hp => W1.1.1 p hp) R1
      obtain ⟨c1, c2, c3, c4, c5, c6, c7, c8⟩ := J
      have w1 : ∀ c, c ≠ 4 → c ≠ 0 → itr (wJoyF (tbC σ r) 1) P 0 (u2 (itr (wJoyF (tbC σ r) (nI d)) P 0 w) 0 7 (nI (mm + d))) c = w c := fun c h4 h0 => by rw [wJoy_c h4, u2_c h0, jc _ c h4]
      refine ⟨fun p hp => ?_, fun p hp => ?_, fun p hp => ?_, fun p hp => ?_, fun s hs => ?_, fun s hs => ?_, fun s hs => ?_, ?_⟩
      · rw [u2_c (by omega), jc _ 1 (by omega), pk_un (by omega), ← c1 p hp, w1 1 (by omega) (by omega)]
      · rw [u2_c (by omega), jc _ 2 (by omega), pk_un (by omega), ← c2 p hp, w1 2 (by omega) (by omega)]
      · rw [u2_c (by omega), jc _ 3 (by omega), pk_un (by omega), ← c3 p hp, w1 3 (by omega) (by omega)]
      · rw [u2_c (by omega), wJoy_4, if_pos (by omega), pk_un (by omega), ← c4 p hp, wJoy_4, if_pos (by omega), u2_c (by omega), u2_c (by omega), wJoy_4, if_pos (by omega), jc _ 1 (by omega), ← nI_1, Int32.add_mul, Int32.add_assoc]
      · rw [u2_c (by omega), jc _ 5 (by omega)]
        have := c5 s hs
        rw [w1 5 (by omega) (by omega)] at this
        exact this.cg (fun p hp => pk_un (by omega))
      · rw [u2_c (by omega), jc _ 6 (by omega), pk_un (by omega), ← c6 s hs, w1 6 (by omega) (by omega)]
      · rw [u2_c (by omega), jc _ 7 (by omega), pk_un (by omega), ← c7 s hs, w1 7 (by omega) (by omega)]
      · rw [u2_s, pk_us]; rfl
    · exact W1.next hS8 hP8 (by omega) N1 C1 pk_us (fun j hj q1 q2 => by rw [pk_un q1]; exact joy_o P 0 A1 (fun p hp => q2 p (by omega)))
    · rw [pk_un (by omega), joy_o P 0 A1 (fun p hp => by omega)]
      exact hi1 j hj
