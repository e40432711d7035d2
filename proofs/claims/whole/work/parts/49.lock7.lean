/-! class and model: the moves and the log -/
def Lg (w : Wd) (A : Nat → Int32) (M : Nat) : Prop := w 0 8 = nI M ∧ A 49 = nI (min M 60) ∧ ∀ i c, i < min M 60 → c < 4 → w 8 ((M - 1 - i) % 60 * 4 + c) = A (50 + 4 * (min M 60 - 1 - i) + c)
theorem shF_mid {m : Nat} : ∀ (k j : Nat) (A : Nat → Int32), itr shF m k A j = if 49 + k ≤ j ∧ j < 49 + k + m then A (j + 4) else A j := by
  induction m with
  | zero => intro k j A; rw [if_neg (by omega)]; rfl
  | succ m ih =>
    intro k j A
    show itr shF m (k + 1) (shF k A) j = _
    rw [ih]
    unfold shF
    by_cases q : j = 49 + k
    · rw [if_neg (by omega), if_pos (by omega), q, pk_us]
    · by_cases q2 : 49 + (k + 1) ≤ j ∧ j < 49 + (k + 1) + m
      · rw [if_pos q2, if_pos (by omega), pk_un (by omega)]
      · rw [if_neg q2, if_neg (by omega), pk_un q]
theorem wLog_8 {p M j : Nat} {to : Int32} {w : Wd} : wLog p to w M 8 j = if j = M % 60 * 4 + 3 then w 0 7 else if j = M % 60 * 4 + 2 then to else if j = M % 60 * 4 + 1 then w 1 p else if j = M % 60 * 4 then nI p else w 8 j := by
  unfold wLog
  rw [u2_c (by omega)]
  simp only [u2_e, true_and]
theorem mLog_hi {p s g j : Nat} {A : Nat → Int32} (hp : p < 8) (hj : 50 ≤ j) : mLog p s g A j = if j = 50 + 4 * g + 3 then A 48 else if j = 50 + 4 * g + 2 then nI s else if j = 50 + 4 * g + 1 then A (4 * p) else if j = 50 + 4 * g then nI p else A j := by
  unfold mLog
  rw [pk_un (by omega), upd_e]
  by_cases q : j = 50 + 4 * g + 3
  · rw [if_pos q, if_pos q]
  · rw [if_neg q, if_neg q, upd_e, upd_e, upd_e]
theorem Lg.move {S P M p s : Nat} {w : Wd} {A : Nat → Int32} (h : Lg w A M) (hR : Rw S P w A) (hP8 : P ≤ 8) (hp : p < P) : Lg (wMove p (nI s) w M) (mMove p s (A 49).toNatClampNeg A) (M + 1) := by
  obtain ⟨h1, h2, h3⟩ := h
  have hg : (A 49).toNatClampNeg = min M 60 := by rw [h2]; exact nI_clamp (by omega)
  rw [hg]
  refine ⟨wMove_m, ?_, fun i c hi hc => ?_⟩
  · rw [mMove_49 (by omega)]
    by_cases q : min M 60 = 60
    · rw [if_pos q, show min (M + 1) 60 = 60 by omega]
    · rw [if_neg q, show min (M + 1) 60 = min M 60 + 1 by omega]
  · unfold wMove
    rw [wPut_c (by omega) (by omega) (by omega) (by omega), wLog_8, hR.m, hR.c1 p hp]
    unfold mMove
    by_cases q : min M 60 = 60
    · rw [if_pos q, pk_un (by omega), mLog_hi (by omega) (by omega), show min (M + 1) 60 = 60 by omega]
      have e48 : upd (itr shF 236 1 A) 49 (nI 59) 48 = A 48 := by rw [pk_un (by omega), shF_mid, if_neg (by omega)]
      have e4p : upd (itr shF 236 1 A) 49 (nI 59) (4 * p) = A (4 * p) := by rw [pk_un (by omega), shF_mid, if_neg (by omega)]
      rw [e48, e4p]
      by_cases q0 : i = 0
      · subst q0
        rw [show M + 1 - 1 - 0 = M by omega]
        have hc4 : c = 0 ∨ c = 1 ∨ c = 2 ∨ c = 3 := by omega
        rcases hc4 with rfl | rfl | rfl | rfl <;> simp
      · have hne : (M + 1 - 1 - i) % 60 ≠ M % 60 := by omega
        rw [if_neg (by omega), if_neg (by omega), if_neg (by omega), if_neg (by omega), if_neg (by omega), if_neg (by omega), if_neg (by omega), if_neg (by omega), pk_un (by omega), shF_mid, if_pos (by omega)]
        have := h3 (i - 1) c (by omega) hc
        rw [show M - 1 - (i - 1) = M + 1 - 1 - i by omega, show min M 60 = 60 from q] at this
        rw [this]
        exact congrArg A (by omega)
    · rw [if_neg q, pk_un (by omega), mLog_hi (by omega) (by omega), show min (M + 1) 60 = M + 1 by omega, show min M 60 = M by omega]
      by_cases q0 : i = 0
      · subst q0
        rw [show M + 1 - 1 - 0 = M by omega, show M % 60 = M by omega]
        have hc4 : c = 0 ∨ c = 1 ∨ c = 2 ∨ c = 3 := by omega
        rcases hc4 with rfl | rfl | rfl | rfl <;> simp
      · rw [if_neg (by omega), if_neg (by omega), if_neg (by omega), if_neg (by omega), if_neg (by omega), if_neg (by omega), if_neg (by omega), if_neg (by omega)]
        have := h3 (i - 1) c (by omega) hc
        rw [show M - 1 - (i - 1) = M + 1 - 1 - i by omega, show min M 60 = M by omega] at this
        rw [this]
        exact congrArg A (by omega)
/-- one moves up -/
theorem st_move {σ τ : LH} {S P mm p s g M : Nat} {w : Wd} {A : Nat → Int32} (hS8 : S ≤ 8) (hP8 : P ≤ 8) (hm : mm < 101) (hp : p < P) (hs : s < S) (hg : A 49 = nI g) (hg1 : g ≤ 60) (hR : Rw S P w A) (hW : WI S P mm A) (hN : NK S mm A) (hC : ∀ j, j < P → cmB A j = false) (hh : A (4 * p) ≠ -2) (h5 : w 5 s = -1) (h6 : w 6 s = -1) : Rw S P (wMove p (nI s) w M) (mMove p s g A) ∧ WI S P mm (mMove p s g A) ∧ NK S mm (mMove p s g A) ∧ ∀ j, j < P → cmB (mMove p s g A) j = false := by
  have lo : ∀ j, j < 49 → mMove p s g A j = if j = 4 * p then nI s else A j := fun j hj => mMove_lo hj
  have b0 : mMove p s g A (4 * p) = nI s := by rw [lo _ (by omega), if_pos rfl]
  have e1 : A (4 * p + 1) = -1 := by
    rcases hW.2.1 p hp with z | z
    · exact absurd z.1 hh
    · exact z.2
  have b1 : mMove p s g A (4 * p + 1) = -1 := by rw [lo _ (by omega), if_neg (by omega)]; exact e1
  have bo : ∀ j, j < 49 → j ≠ 4 * p → j ≠ 4 * p + 1 → mMove p s g A j = A j := fun j q1 q2 _ => by rw [lo _ q1, if_neg q2]
  have b49 := mMove_49 (s := s) (g := g) (A := A) (p := p) (by omega)
  have hx := hW.1.1 p hp
  have hy : plc S (nI s) := Or.inr (Or.inr ⟨s, hs, rfl⟩)
  have hRl : Rw S P (wLog p (nI s) w M) A := by
    refine hR.cg hS8 hP8 (fun _ _ => rfl) (wLog_c (by omega) (by omega)) (wLog_c (by omega) (by omega)) (wLog_c (by omega) (by omega)) (wLog_c (by omega) (by omega)) (wLog_c (by omega) (by omega)) (wLog_c (by omega) (by omega)) (wLog_c (by omega) (by omega)) ?_
    unfold wLog
    rw [u2_i (by omega), u2_c (by omega), u2_c (by omega), u2_c (by omega), u2_c (by omega)]
  have h6' : A (32 + 2 * s) = -1 := by rw [← hR.c6 s hs]; exact h6
  refine ⟨?_, ?_, fun t ht => ?_, fun j hj => ?_⟩
  · unfold wMove
    refine hRl.put hS8 hP8 hp hx hy (fun t ht z => ?_) b0 b1 bo
    have := nI_ij (by omega) (by omega) z
    subst this
    rw [wLog_c (by omega) (by omega)]
    exact h5
  · refine hW.put hS8 hP8 hp hy (nI_m2 (by omega)) (fun t ht z => ?_) b0 b1 bo ⟨_, ?_, b49⟩
    · have := nI_ij (by omega) (by omega) z
      subst this
      exact h6'
    · split <;> omega
  · rw [bo _ (by omega) (by omega) (by omega)]
    exact hN t ht
  · by_cases e : j = p
    · subst e
      exact decide_eq_false (fun z => nI_m2 (by omega) (b0.symm.trans z.1))
    · have := hC j hj
      unfold cmB at this ⊢
      rw [bo _ (by omega) (by omega) (by omega), bo _ (by omega) (by omega) (by omega), bo _ (by omega) (by omega) (by omega)]
      exact this
theorem st_moves {σ τ : LH} {S P r mm : Nat} {L : Nat → Nat → Int32} {ln : Nat → Nat → Nat} {sn : Nat → Nat} (hS8 : S ≤ 8) (hP8 : P ≤ 8) (hm : mm < 101) (hF : FX σ τ S P) (hL : ∀ p s, p < P → s < S → tbC σ r p s = L p s) (hl : LKr L ln S P) (hsn : ∀ p, p < P → sM τ p = nI (sn p) ∧ 1 ≤ sn p ∧ sn p < 1000) : ∀ (N : Nat) (w : Wd) (A : Nat → Int32) (M : Nat) (v : Int32), pot ln S P A < N → Rw S P w A → WI S P mm A → NK S mm A → (∀ j, j < P → cmB A j = false) → ∃ w1 A1 d, d < N ∧ muR (pickC σ S P r) N w M = some (w1, M + d) ∧ muA (pickM L τ S P) N A v = some (A1, v + nI d) ∧ Rw S P w1 A1 ∧ WI S P mm A1 ∧ NK S mm A1 ∧ (∀ j, j < P → cmB A1 j = false) ∧ (pickC σ S P r w1).2 = none ∧ (w 0 8 = nI M → w1 0 8 = nI (M + d)) ∧ (Lg w A M → Lg w1 A1 (M + d)) := by
  intro N
  induction N with
  | zero => intro w A M v h; omega
  | succ N ih =>
    intro w A M v hpt hR hW hN hC
    have hpe := pick_eq hS8 hF hL hR hW
    cases hpk : pickM L τ S P A with
    | mk s' t' =>
      have hpk2 : mvR (tkM L τ P A) (wM τ) (vw P A) S 0 none none = (s', t') := hpk
      obtain ⟨b1, b2⟩ := mvR_in S 0 none none (fun j hj => by cases hj) (fun _ => rfl) (fun _ => rfl) s' t' hpk2
      cases s' with
      | none =>
        have ht : t' = none := b2.mp rfl
        subst ht
        refine ⟨w, A, 0, by omega, ?_, ?_, hR, hW, hN, hC, ?_, fun h => h, fun h => h⟩
        · unfold muR
          rw [hpe, hpk]
          rfl
        · unfold muA
          rw [hpk]
          show some (A, v) = some (A, v + 0)
          rw [Int32.add_zero]
        · rw [hpe, hpk]
      | some s =>
        cases t' with
        | none => exact absurd (b2.mpr rfl) (by simp)
        | some t =>
          obtain ⟨hs, ht, htk⟩ := pickM_in hpk
          obtain ⟨f5, f6⟩ := mvR_free S 0 none none (fun j hj => by cases hj) _ _ hpk2 s rfl
          have htk2 : tkR L (qM τ) (sM τ) (xM2 τ) s (vw P A) P 0 none 0 = some t := htk
          obtain ⟨g1, g2⟩ := tkR_ok P 0 none 0 (fun j hj => by cases hj) t htk2
          have g1 : A (4 * t) ≠ -2 := g1
          have g2 : sM τ t ≤ L t s - lkx L t (A (4 * t)) := g2
          have w5 : w 5 s = -1 := by
            have : soR A (nI s) P 0 = -1 := f5
            rw [(hR.c5 s hs).so] at this
            exact this
          have w6 : w 6 s = -1 := by rw [hR.c6 s hs]; exact f6
          obtain ⟨g, hg1, hg2⟩ := hW.1.2.2
          have hcl : (A 49).toNatClampNeg = g := by rw [hg2]; exact nI_clamp (by omega)
          obtain ⟨k1, k2, k3, k4⟩ := st_move (σ := σ) (τ := τ) (M := M) hS8 hP8 hm ht hs hg2 hg1 hR hW hN hC g1 w5 w6
          have hx := hW.1.1 t ht
          obtain ⟨l1, l2⟩ := lkx_n hl hS8 ht hx
          obtain ⟨l3, l4⟩ := hl t s ht hs
          obtain ⟨n1, n2, n3⟩ := hsn t ht
          rw [n1, l3, l1] at g2
          have g3 := nI_subn l4 l2 n3 g2
          have lo : ∀ j, j < 49 → mMove t s g A j = if j = 4 * t then nI s else A j := fun j hj => mMove_lo hj
          have hnew : lkN ln t (nI s) = ln t s := by
            unfold lkN
            rw [if_neg (nI_pos (n := s) (by omega)), nI_clamp (show s < 2 ^ 31 by omega)]
          have hlt : pot ln S P (mMove t s g A) < pot ln S P A := by
            refine smN_lt (p := t) ?_ P 0 (by omega) (by omega) (fun j q1 q2 => by
              show btr ln S j (mMove t s g A (4 * j)) = btr ln S j (A (4 * j))
              rw [lo _ (by omega), if_neg (by omega)])
            show btr ln S t (mMove t s g A (4 * t)) < btr ln S t (A (4 * t))
            rw [lo _ (by omega), if_pos rfl]
            unfold btr
            rw [hnew]
            refine cnB_lt (p := s) (fun j hj => ?_) (decide_eq_true (by omega)) (decide_eq_false (by omega)) S 0 (by omega) (by omega)
            have := of_decide_eq_true hj
            exact decide_eq_true (by omega)
          obtain ⟨w1, A1, d, d1, d2, d3, d4, d5, d6, d7, d8, d9, d10⟩ := ih (wMove t (nI s) w M) (mMove t s g A) (M + 1) (v + 1) (by omega) k1 k2 k3 k4
          refine ⟨w1, A1, d + 1, by omega, ?_, ?_, d4, d5, d6, d7, d8, fun _ => ?_, fun hlg => ?_⟩
          · unfold muR
            rw [hpe, hpk]
            show muR (pickC σ S P r) N (wMove t (nI s) w M) (M + 1) = _
            rw [d2, show M + 1 + d = M + (d + 1) by omega]
          · unfold muA
            rw [hpk]
            show muA (pickM L τ S P) N (mMove t s (A 49).toNatClampNeg A) (v + 1) = _
            rw [hcl, d3, Int32.add_assoc, show (1 : Int32) + nI d = nI (d + 1) by rw [← nI_1, Int32.add_comm]]
          · have := d9 wMove_m
            rw [this, show M + 1 + d = M + (d + 1) by omega]
          · have h2 := hlg.move (s := s) hR hP8 ht
            rw [hcl] at h2
            have := d10 h2
            rw [show M + 1 + d = M + (d + 1) by omega] at this
            exact this
