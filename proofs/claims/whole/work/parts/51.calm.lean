/-! the class: how long all is calm -/
def erl (a b m : Int32) : Int32 := if b < m then a else if a ≤ b then a else b
theorem e_earlier {a b m : Int32} {σ : LH} : s_Evening_earlier a b m σ = some (erl a b m, σ) := by
  unfold s_Evening_earlier erl
  by_cases q1 : b < m
  · rw [if_pos q1, if_pos q1]
    rfl
  · rw [if_neg q1, if_neg q1]
    by_cases q2 : a ≤ b
    · rw [if_pos q2, if_pos q2]
      rfl
    · rw [if_neg q2, if_neg q2]
      rfl
theorem erl_le {a b m : Int32} : erl a b m ≤ a := by
  unfold erl
  split
  · exact Int32.le_refl _
  · split
    · exact Int32.le_refl _
    · rename_i q
      exact Int32.le_of_lt (Int32.not_le.mp q)
theorem erl_ge {a b m : Int32} (h : m ≤ a) : m ≤ erl a b m := by
  unfold erl
  split
  · exact h
  · rename_i q
    split
    · exact h
    · exact Int32.not_lt.mp q
theorem erl_ev {a b m : Int32} (h : m ≤ b) : erl a b m ≤ b := by
  unfold erl
  rw [if_neg (Int32.not_lt.mpr h)]
  split
  · assumption
  · exact Int32.le_refl _
def erN (ev : Nat → Int32) (mi : Int32) : Nat → Nat → Int32 → Int32
  | 0, _, y => y
  | m + 1, k, y => erN ev mi m (k + 1) (erl y (ev k) mi)
theorem erN_le {ev : Nat → Int32} {mi : Int32} : ∀ (m k : Nat) (y : Int32), erN ev mi m k y ≤ y := by
  intro m
  induction m with
  | zero => intro k y; exact Int32.le_refl _
  | succ m ih => intro k y; exact Int32.le_trans (ih (k + 1) _) erl_le
theorem erN_ge {ev : Nat → Int32} {mi : Int32} : ∀ (m k : Nat) (y : Int32), mi ≤ y → mi ≤ erN ev mi m k y := by
  intro m
  induction m with
  | zero => intro k y h; exact h
  | succ m ih => intro k y h; exact ih (k + 1) _ (erl_ge h)
theorem erN_ev {ev : Nat → Int32} {mi : Int32} {i : Nat} (hi : mi ≤ ev i) : ∀ (m k : Nat) (y : Int32), k ≤ i → i < k + m → erN ev mi m k y ≤ ev i := by
  intro m
  induction m with
  | zero => intro k y h1 h2; omega
  | succ m ih =>
    intro k y h1 h2
    by_cases e : i = k
    · subst e
      exact Int32.le_trans (erN_le m (i + 1) _) (erl_ev hi)
    · exact ih (k + 1) _ (by omega) (by omega)
def mrE (who : Option Nat) (lv mi y : Int32) : Int32 := match who with
  | none => y
  | some _ => erl y lv mi
def calmV (σ : LH) (S P n0 : Nat) (who : Option Nat) (mi last tl : Int32) (w : Wd) : Int32 := mrE who (σ.1 38 4) mi (erN (σ.1 13) mi n0 0 (erN (w 2) mi P 0 (erN (w 7) mi S 0 (erl last tl mi))))
theorem e_calm119 {σ : LH} {h S P n0 n : Nat} {go : Nat → Nat} {who : Option Nat} (h39 : 39 ≤ h) (C : CFix σ S P n0 go who n) {mi last : Int32} {w : Wd} : ∀ (m f k : Nat) (y : Int32), k + m = n0 → m < f → s_Evening_calmTill_119 h last f mi y (nI k) (sH σ h w) = some (mrE who (σ.1 38 4) mi (erN (σ.1 13) mi m k y), sH σ h w) := by
  obtain ⟨hS, hS8, hP, hP8, hG, hG10, hgo, hwho, hw2, hn⟩ := C
  intro m
  induction m with
  | zero =>
    intro f k y hk hf
    obtain ⟨f, rfl⟩ : ∃ q, f = q + 1 := ⟨f - 1, by omega⟩
    simp only [s_Evening_calmTill_119, s_Evening_calmTill_119_b]
    rw [sH_lo (b := 4) (by omega), hG, if_pos (nI_le (by omega) (by omega)), sH_lo (b := 38) (by omega), hwho]
    cases who with
    | none =>
      rw [if_pos (show oI none = -1 from rfl)]
      rfl
    | some p =>
      have := hw2 p rfl
      rw [if_neg (show ¬ oI (some p) = -1 from nI_m1 (by omega)), e_earlier]
      rfl
  | succ m ih =>
    intro f k y hk hf
    obtain ⟨f, rfl⟩ : ∃ q, f = q + 1 := ⟨f - 1, by omega⟩
    simp only [s_Evening_calmTill_119, s_Evening_calmTill_119_b]
    rw [sH_lo (b := 4) (by omega), hG, if_neg (nI_ge (by omega) (by omega)), if_pos (ib_nI (by omega) (by omega)), nI_clamp (show k < 2 ^ 31 by omega), e_earlier]
    simp only [xb2, xl]
    rw [sH_lo (b := 13) (by omega), nI_1]
    exact ih f (k + 1) _ (by omega) (by omega)
theorem e_calm83 {σ : LH} {h S P n0 n : Nat} {go : Nat → Nat} {who : Option Nat} (h39 : 39 ≤ h) (C : CFix σ S P n0 go who n) {mi last : Int32} {w : Wd} : ∀ (m f k : Nat) (y : Int32), k + m = P → m < f → s_Evening_calmTill_83 h last f mi y (nI k) (sH σ h w) = some (mrE who (σ.1 38 4) mi (erN (σ.1 13) mi n0 0 (erN (w 2) mi m k y)), sH σ h w) := by
  have C0 := C
  obtain ⟨hS, hS8, hP, hP8, hG, hG10, hgo, hwho, hw2, hn⟩ := C
  intro m
  induction m with
  | zero =>
    intro f k y hk hf
    obtain ⟨f, rfl⟩ : ∃ q, f = q + 1 := ⟨f - 1, by omega⟩
    simp only [s_Evening_calmTill_83, s_Evening_calmTill_83_b]
    rw [sH_lo (b := 4) (by omega), hP, if_pos (nI_le (by omega) (by omega))]
    have := e_calm119 (mi := mi) (last := last) (w := w) h39 C0 n0 FUEL 0 y (by omega) (by unfold FUEL; omega)
    rw [nI_0] at this
    exact this
  | succ m ih =>
    intro f k y hk hf
    obtain ⟨f, rfl⟩ : ∃ q, f = q + 1 := ⟨f - 1, by omega⟩
    simp only [s_Evening_calmTill_83, s_Evening_calmTill_83_b]
    rw [sH_lo (b := 4) (by omega), hP, if_neg (nI_ge (by omega) (by omega)), if_pos (ib_nI (by omega) (by omega)), nI_clamp (show k < 2 ^ 31 by omega), e_earlier]
    simp only [xb2, xl]
    rw [sH_in (c := 2) (by omega), nI_1]
    exact ih f (k + 1) _ (by omega) (by omega)
theorem e_calm47 {σ : LH} {h S P n0 n : Nat} {go : Nat → Nat} {who : Option Nat} (h39 : 39 ≤ h) (C : CFix σ S P n0 go who n) {mi last : Int32} {w : Wd} : ∀ (m f k : Nat) (y : Int32), k + m = S → m < f → s_Evening_calmTill_47 h last f mi y (nI k) (sH σ h w) = some (mrE who (σ.1 38 4) mi (erN (σ.1 13) mi n0 0 (erN (w 2) mi P 0 (erN (w 7) mi m k y))), sH σ h w) := by
  have C0 := C
  obtain ⟨hS, hS8, hP, hP8, hG, hG10, hgo, hwho, hw2, hn⟩ := C
  intro m
  induction m with
  | zero =>
    intro f k y hk hf
    obtain ⟨f, rfl⟩ : ∃ q, f = q + 1 := ⟨f - 1, by omega⟩
    simp only [s_Evening_calmTill_47, s_Evening_calmTill_47_b]
    rw [sH_lo (b := 4) (by omega), hS, if_pos (nI_le (by omega) (by omega))]
    have := e_calm83 (mi := mi) (last := last) (w := w) h39 C0 P FUEL 0 y (by omega) (by unfold FUEL; omega)
    rw [nI_0] at this
    exact this
  | succ m ih =>
    intro f k y hk hf
    obtain ⟨f, rfl⟩ : ∃ q, f = q + 1 := ⟨f - 1, by omega⟩
    simp only [s_Evening_calmTill_47, s_Evening_calmTill_47_b]
    rw [sH_lo (b := 4) (by omega), hS, if_neg (nI_ge (by omega) (by omega)), if_pos (ib_nI (by omega) (by omega)), nI_clamp (show k < 2 ^ 31 by omega), e_earlier]
    simp only [xb2, xl]
    rw [sH_in (c := 7) (by omega), nI_1]
    exact ih f (k + 1) _ (by omega) (by omega)
theorem nI_btw {a b : Nat} {x : Int32} (hb : b < 2 ^ 30) (ha : a < 2 ^ 30) (h1 : nI a ≤ x) (h2 : x ≤ nI b) : ∃ t, x = nI t ∧ a ≤ t ∧ t ≤ b := by
  have h3 : (0 : Int32) ≤ x := Int32.le_trans (Int32.not_lt.mp (nI_pos (n := a) (by omega))) h1
  have e : x = nI x.toNatClampNeg := by
    unfold nI
    rw [Int32.le_iff_toInt_le] at h3
    have h3 : (0 : Int) ≤ x.toInt := h3
    apply Int32.toInt_inj.mp
    rw [Int32.toInt_ofNat_of_lt (by have := x.toInt_lt; unfold Int32.toNatClampNeg; omega)]
    unfold Int32.toNatClampNeg
    omega
  have hlt : x.toNatClampNeg < 2 ^ 31 := by
    have := x.toInt_lt
    unfold Int32.toNatClampNeg
    omega
  rw [e] at h1 h2
  exact ⟨_, e, (nI_le1 (by omega) hlt).mp h1, (nI_le1 hlt (by omega)).mp h2⟩
