/-! the class: a minute whole -/
theorem l_mark {r n : Nat} {σ : LH} (hr : r < 100) (hn : σ.1 33 5 = nI n) : s_Likings_mark (nI r) σ = some (nI (n * 128 + r), σ) := by
  unfold s_Likings_mark
  rw [hn, show (128 : Int32) = nI 128 from rfl, pk_mul, nI_add]
/-- (4), with what spares it -/
def wMoves (σ : LH) (S P r n : Nat) (w : Wd) (w' : Wd) : Prop := (w 0 10 = nI (n * 128 + r) ∧ w' = w) ∨ (w 0 10 ≠ nI (n * 128 + r) ∧ ∃ w1 M', muR (pickC σ S P r) 1000 w (w 0 8).toNatClampNeg = some (w1, M') ∧ w' = u2 w1 0 10 (nI (n * 128 + r)))
theorem e_moveUp {σ : LH} {h S P r n M : Nat} {w w' : Wd} (h39 : 39 ≤ h) (hS : σ.1 4 0 = nI S) (hS8 : S ≤ 8) (hP : σ.1 4 1 = nI P) (hP8 : P ≤ 8) (hr : r < 100) (hn : σ.1 33 5 = nI n) (hw : ∀ p, p < P → plc 8 (w 1 p)) (hM : w 0 8 = nI M) (hM2 : M < 2 ^ 29) (hm : wMoves σ S P r n w w') : s_Evening_moveUp h (nI r) (sH σ h w) = some (w' 0 8 - w 0 8, sH σ h w') := by
  unfold s_Evening_moveUp
  rw [l_mark hr (by rw [sH_lo (b := 33) (by omega)]; exact hn)]
  simp only [xb2]
  rw [sH_in0]
  rcases hm with ⟨q, rfl⟩ | ⟨q, w1, M', h1, rfl⟩
  · rw [if_pos q, Int32.sub_self]
  · rw [if_neg q]
    simp only [xl]
    have hcl : (w 0 8).toNatClampNeg = M := by rw [hM]; exact nI_clamp (by omega)
    rw [hcl] at h1
    have := e_moveUp_loop (y3 := nI (n * 128 + r)) (y4 := w 0 8) h39 hS hS8 hP hP8 hr 1000 FUEL 0 w M w1 M' h1 (by omega) (by unfold FUEL; omega) hw hM (by omega)
    rw [nI_0] at this
    rw [this]
    unfold s_Evening_moveUp_154
    simp only [xl]
    rw [sH_stI0, sH_in0]
/-- (5) -/
def wJoyF (tb : Nat → Nat → Int32) (k : Int32) (p : Nat) (w : Wd) : Wd := u2 w 4 p (w 4 p + k * lkx tb p (w 1 p))
theorem e_enjoy_loop {σ : LH} {h P r : Nat} {till y4 : Int32} (h39 : 39 ≤ h) (hP : σ.1 4 1 = nI P) (hP8 : P ≤ 8) (hr : r < 100) : ∀ (m n k : Nat) (w : Wd), k + m = P → m < n → (∀ p, p < P → plc 8 (w 1 p)) → s_Evening_enjoy_23 h till n (nI r) y4 (nI k) (sH σ h w) = some (sH σ h (u2 (itr (wJoyF (fun p s => σ.1 34 (r * 64 + p * 8 + s)) y4) m k w) 0 7 till)) := by
  intro m
  induction m with
  | zero =>
    intro n k w hk hn hw
    obtain ⟨n, rfl⟩ : ∃ q, n = q + 1 := ⟨n - 1, by omega⟩
    simp only [s_Evening_enjoy_23, s_Evening_enjoy_23_b]
    rw [sH_lo (b := 4) (by omega), hP, if_pos (nI_le (by omega) (by omega))]
    simp only [xl]
    rw [sH_stI0]
    rfl
  | succ m ih =>
    intro n k w hk hn hw
    obtain ⟨n, rfl⟩ : ∃ q, n = q + 1 := ⟨n - 1, by omega⟩
    have i8 : ib (nI k) 8 := ib_nI (by omega) (by omega)
    have cl : (nI k).toNatClampNeg = k := nI_clamp (by omega)
    simp only [s_Evening_enjoy_23, s_Evening_enjoy_23_b, if_pos i8, cl]
    rw [sH_lo (b := 4) (by omega), hP, if_neg (nI_ge (by omega) (by omega)), sH_in (c := 1) (by omega), l_atx hr (by omega) (hw k (by omega))]
    simp only [xb2, xl]
    rw [sH_stI (c := 4) (by omega), sH_in (c := 4) (by omega), sH_lo (b := 34) (by omega), nI_1]
    refine (ih n (k + 1) _ (by omega) (by omega) (fun p hp => ?_)).trans rfl
    rw [u2_c (by omega)]
    exact hw p hp
theorem e_enjoy {σ : LH} {h P m : Nat} {till : Int32} {w : Wd} (h39 : 39 ≤ h) (hP : σ.1 4 1 = nI P) (hP8 : P ≤ 8) (hm : w 0 7 = nI m) (hm1 : m < 100) {r : Nat} (hr : σ.1 35 m = nI r) (hr1 : r < 100) (hw : ∀ p, p < P → plc 8 (w 1 p)) : s_Evening_enjoy h till (sH σ h w) = some (sH σ h (u2 (itr (wJoyF (fun p s => σ.1 34 (r * 64 + p * 8 + s)) (till - nI m)) P 0 w) 0 7 till)) := by
  unfold s_Evening_enjoy
  rw [sH_in0, hm, l_row hm1, sH_lo (b := 35) (by omega), hr]
  simp only [xb2, xl]
  rw [sH_in0, hm]
  have := e_enjoy_loop (till := till) (y4 := till - nI m) h39 hP hP8 hr1 P FUEL 0 w (by omega) (by unfold FUEL; omega) hw
  rw [nI_0] at this
  exact this
/-- what is fixed while minutes go by, in the class -/
def CFix (σ : LH) (S P n0 : Nat) (go : Nat → Nat) (who : Option Nat) (n : Nat) : Prop := σ.1 4 0 = nI S ∧ S ≤ 8 ∧ σ.1 4 1 = nI P ∧ P ≤ 8 ∧ σ.1 4 2 = nI n0 ∧ n0 ≤ 10 ∧ (∀ g, g < n0 → σ.1 12 g = nI (go g) ∧ go g < P) ∧ σ.1 38 3 = oI who ∧ (∀ p, who = some p → p < P) ∧ σ.1 33 5 = nI n
abbrev tbC (σ : LH) (r : Nat) : Nat → Nat → Int32 := fun p s => σ.1 34 (r * 64 + p * 8 + s)
/-- (1) to (3) of a minute -/
def wHalf (σ : LH) (S P n0 : Nat) (go : Nat → Nat) (who : Option Nat) (r : Nat) (w : Wd) : Wd :=
  tbR (tbC σ r) (σ.1 9) S P 8 (wMoreF who (σ.1 38 4) (σ.1 38 5) (itr (wOutF (σ.1 13) (σ.1 14) go (σ.1 38 2)) n0 0 (itr wRelF S 0 w)))
theorem e_sendOut {σ : LH} {h P n0 : Nat} {go : Nat → Nat} {who : Option Nat} (h39 : 39 ≤ h) (hP : σ.1 4 1 = nI P) (hP8 : P ≤ 8) (hG : σ.1 4 2 = nI n0) (hG10 : n0 ≤ 10) (hgo : ∀ g, g < n0 → σ.1 12 g = nI (go g) ∧ go g < P) (hwho : σ.1 38 3 = oI who) (hw2 : ∀ p, who = some p → p < P) (w : Wd) : s_Evening_sendOut h (sH σ h w) = some (sH σ h (wMoreF who (σ.1 38 4) (σ.1 38 5) (itr (wOutF (σ.1 13) (σ.1 14) go (σ.1 38 2)) n0 0 w))) := by
  have := e_sendOut_loop h39 hP hP8 hG hG10 hgo hwho hw2 n0 FUEL 0 w (by omega) (by unfold FUEL; omega)
  rw [nI_0] at this
  exact this
theorem e_pass {σ : LH} {h S P n0 n m r M : Nat} {go : Nat → Nat} {who : Option Nat} {w w2 : Wd} (h39 : 39 ≤ h) (C : CFix σ S P n0 go who n) (hm : w 0 7 = nI m) (hm1 : m < 100) (hr : σ.1 35 m = nI r) (hr1 : r < 100) (hv : wMoves σ S P r n (wHalf σ S P n0 go who r w) w2) (hp3 : ∀ p, p < P → plc 8 (wHalf σ S P n0 go who r w 1 p)) (hM : wHalf σ S P n0 go who r w 0 8 = nI M) (hM2 : M < 2 ^ 29) (hp4 : ∀ p, p < P → plc 8 (w2 1 p)) (hm4 : w2 0 7 = nI m) : s_Evening_pass h (sH σ h w) = some (sH σ h (u2 (itr (wJoyF (tbC σ r) 1) P 0 w2) 0 7 (nI (m + 1)))) := by
  obtain ⟨hS, hS8, hP, hP8, hG, hG10, hgo, hwho, hw2, hn⟩ := C
  unfold s_Evening_pass
  rw [sH_in0, hm, l_row hm1, sH_lo (b := 35) (by omega), hr]
  simp only [xb2]
  rw [e_release h39 hS hS8]
  simp only [xb1]
  rw [e_sendOut h39 hP hP8 hG hG10 hgo hwho hw2]
  simp only
  rw [e_takeBack h39 hS hS8 hP hP8 hr1]
  simp only
  have hv2 := e_moveUp h39 hS hS8 hP hP8 hr1 hn hp3 hM hM2 hv
  unfold wHalf at hv2
  rw [hv2]
  simp only
  rw [sH_in0, hm4, nI_1, e_enjoy h39 hP hP8 hm4 hm1 hr hr1 hp4]
  have : nI (m + 1) - nI m = 1 := by rw [← nI_1, Int32.add_comm, Int32.add_sub_cancel]
  rw [this]
