/-! text: what the model takes over -/
section
variable {τ : LH} {p0 : Int32}
theorem stF_stI {σ : LH} {b i : Nat} {v : Int32} {f : Nat → Int32} : stF (stI σ b i v) b f = stF σ b f := by
  unfold stI
  rw [stF_F]
theorem cp141 : ∀ (m n y : Nat) (τ : LH), y + m = 24 → m < n → ∃ F : Nat → Int32, (∀ j, j < y → F j = τ.1 575 j) ∧ (∀ j, y ≤ j → j < 24 → F j = τ.1 576 j) ∧ s_Model_text_141 p0 n (nI y) τ = s_Model_text_167 p0 FUEL 0 (stF τ 575 F) := by
  intro m
  induction m with
  | zero =>
    intro n y τ hy hn
    obtain ⟨n, rfl⟩ : ∃ q, n = q + 1 := ⟨n - 1, by omega⟩
    refine ⟨τ.1 575, fun _ _ => rfl, fun j h1 h2 => by omega, ?_⟩
    rw [s_Model_text_141, stF_id]
    unfold s_Model_text_141_b
    rw [if_pos (show (24 : Int32) ≤ nI y from nI_le (a := 24) (by omega) (by omega))]
  | succ m ih =>
    intro n y τ hy hn
    obtain ⟨n, rfl⟩ : ∃ q, n = q + 1 := ⟨n - 1, by omega⟩
    obtain ⟨F, f1, f2, f3⟩ := ih n (y + 1) (stI τ 575 y (τ.1 576 y)) (by omega) (by omega)
    refine ⟨F, fun j hj => ?_, fun j h1 h2 => ?_, ?_⟩
    · rw [f1 j (by omega), stI_e, if_neg (by omega)]
    · by_cases q : j = y
      · rw [q, f1 y (by omega), stI_e, if_pos rfl]
      · rw [f2 j (by omega) h2, stI_n (by omega)]
    · rw [s_Model_text_141]
      unfold s_Model_text_141_b
      rw [if_neg (show ¬ (24 : Int32) ≤ nI y from nI_ge (b := 24) (by omega) (by omega)), if_pos (ib_nI (show y < 24 by omega) (by omega)), if_pos (ib_nI (show y < 24 by omega) (by omega)), nI_clamp (show y < 2 ^ 31 by omega)]
      simp only [xl]
      rw [nI_1, f3, stF_stI]
theorem cp167 : ∀ (m n y : Nat) (τ : LH), y + m = 32 → m < n → ∃ F : Nat → Int32, (∀ j, j < y → F j = τ.1 577 j) ∧ (∀ j, y ≤ j → j < 32 → F j = τ.1 578 j) ∧ s_Model_text_167 p0 n (nI y) τ = s_Model_text_193 p0 FUEL 0 (stF τ 577 F) := by
  intro m
  induction m with
  | zero =>
    intro n y τ hy hn
    obtain ⟨n, rfl⟩ : ∃ q, n = q + 1 := ⟨n - 1, by omega⟩
    refine ⟨τ.1 577, fun _ _ => rfl, fun j h1 h2 => by omega, ?_⟩
    rw [s_Model_text_167, stF_id]
    unfold s_Model_text_167_b
    rw [if_pos (show (32 : Int32) ≤ nI y from nI_le (a := 32) (by omega) (by omega))]
  | succ m ih =>
    intro n y τ hy hn
    obtain ⟨n, rfl⟩ : ∃ q, n = q + 1 := ⟨n - 1, by omega⟩
    obtain ⟨F, f1, f2, f3⟩ := ih n (y + 1) (stI τ 577 y (τ.1 578 y)) (by omega) (by omega)
    refine ⟨F, fun j hj => ?_, fun j h1 h2 => ?_, ?_⟩
    · rw [f1 j (by omega), stI_e, if_neg (by omega)]
    · by_cases q : j = y
      · rw [q, f1 y (by omega), stI_e, if_pos rfl]
      · rw [f2 j (by omega) h2, stI_n (by omega)]
    · rw [s_Model_text_167]
      unfold s_Model_text_167_b
      rw [if_neg (show ¬ (32 : Int32) ≤ nI y from nI_ge (b := 32) (by omega) (by omega)), if_pos (ib_nI (show y < 32 by omega) (by omega)), if_pos (ib_nI (show y < 32 by omega) (by omega)), nI_clamp (show y < 2 ^ 31 by omega)]
      simp only [xl]
      rw [nI_1, f3, stF_stI]
theorem cp193 : ∀ (m n y : Nat) (τ : LH), y + m = 30 → m < n → ∃ F : Nat → Int32, (∀ j, j < y → F j = τ.1 579 j) ∧ (∀ j, y ≤ j → j < 30 → F j = τ.1 580 j) ∧ s_Model_text_193 p0 n (nI y) τ = s_Model_text_219 p0 FUEL 0 (stF τ 579 F) := by
  intro m
  induction m with
  | zero =>
    intro n y τ hy hn
    obtain ⟨n, rfl⟩ : ∃ q, n = q + 1 := ⟨n - 1, by omega⟩
    refine ⟨τ.1 579, fun _ _ => rfl, fun j h1 h2 => by omega, ?_⟩
    rw [s_Model_text_193, stF_id]
    unfold s_Model_text_193_b
    rw [if_pos (show (30 : Int32) ≤ nI y from nI_le (a := 30) (by omega) (by omega))]
  | succ m ih =>
    intro n y τ hy hn
    obtain ⟨n, rfl⟩ : ∃ q, n = q + 1 := ⟨n - 1, by omega⟩
    obtain ⟨F, f1, f2, f3⟩ := ih n (y + 1) (stI τ 579 y (τ.1 580 y)) (by omega) (by omega)
    refine ⟨F, fun j hj => ?_, fun j h1 h2 => ?_, ?_⟩
    · rw [f1 j (by omega), stI_e, if_neg (by omega)]
    · by_cases q : j = y
      · rw [q, f1 y (by omega), stI_e, if_pos rfl]
      · rw [f2 j (by omega) h2, stI_n (by omega)]
    · rw [s_Model_text_193]
      unfold s_Model_text_193_b
      rw [if_neg (show ¬ (30 : Int32) ≤ nI y from nI_ge (b := 30) (by omega) (by omega)), if_pos (ib_nI (show y < 30 by omega) (by omega)), if_pos (ib_nI (show y < 30 by omega) (by omega)), nI_clamp (show y < 2 ^ 31 by omega)]
      simp only [xl]
      rw [nI_1, f3, stF_stI]
theorem cp219 : ∀ (m n y : Nat) (τ : LH), y + m = 2 → m < n → ∃ F : Nat → Int32, (∀ j, j < y → F j = τ.1 581 j) ∧ (∀ j, y ≤ j → j < 2 → F j = τ.1 582 j) ∧ s_Model_text_219 p0 n (nI y) τ = s_Model_text_244 p0 FUEL 0 (stF τ 581 F) := by
  intro m
  induction m with
  | zero =>
    intro n y τ hy hn
    obtain ⟨n, rfl⟩ : ∃ q, n = q + 1 := ⟨n - 1, by omega⟩
    refine ⟨τ.1 581, fun _ _ => rfl, fun j h1 h2 => by omega, ?_⟩
    rw [s_Model_text_219, stF_id]
    unfold s_Model_text_219_b
    rw [if_pos (show (2 : Int32) ≤ nI y from nI_le (a := 2) (by omega) (by omega))]
  | succ m ih =>
    intro n y τ hy hn
    obtain ⟨n, rfl⟩ : ∃ q, n = q + 1 := ⟨n - 1, by omega⟩
    obtain ⟨F, f1, f2, f3⟩ := ih n (y + 1) (stI τ 581 y (τ.1 582 y)) (by omega) (by omega)
    refine ⟨F, fun j hj => ?_, fun j h1 h2 => ?_, ?_⟩
    · rw [f1 j (by omega), stI_e, if_neg (by omega)]
    · by_cases q : j = y
      · rw [q, f1 y (by omega), stI_e, if_pos rfl]
      · rw [f2 j (by omega) h2, stI_n (by omega)]
    · rw [s_Model_text_219]
      unfold s_Model_text_219_b
      rw [if_neg (show ¬ (2 : Int32) ≤ nI y from nI_ge (b := 2) (by omega) (by omega)), if_pos (ib_nI (show y < 2 by omega) (by omega)), if_pos (ib_nI (show y < 2 by omega) (by omega)), nI_clamp (show y < 2 ^ 31 by omega)]
      simp only [xl]
      rw [nI_1, f3, stF_stI]
theorem cp244 : ∀ (m n y : Nat) (τ : LH), y + m = 290 → m < n → ∃ F : Nat → Int32, (∀ j, j < y → F j = τ.1 583 j) ∧ (∀ j, y ≤ j → j < 290 → F j = 0) ∧ s_Model_text_244 p0 n (nI y) τ = s_Model_text_266 p0 FUEL 0 (stF τ 583 F) := by
  intro m
  induction m with
  | zero =>
    intro n y τ hy hn
    obtain ⟨n, rfl⟩ : ∃ q, n = q + 1 := ⟨n - 1, by omega⟩
    refine ⟨τ.1 583, fun _ _ => rfl, fun j h1 h2 => by omega, ?_⟩
    rw [s_Model_text_244, stF_id]
    unfold s_Model_text_244_b
    rw [if_pos (show (290 : Int32) ≤ nI y from nI_le (a := 290) (by omega) (by omega))]
  | succ m ih =>
    intro n y τ hy hn
    obtain ⟨n, rfl⟩ : ∃ q, n = q + 1 := ⟨n - 1, by omega⟩
    obtain ⟨F, f1, f2, f3⟩ := ih n (y + 1) (stI τ 583 y 0) (by omega) (by omega)
    refine ⟨F, fun j hj => ?_, fun j h1 h2 => ?_, ?_⟩
    · rw [f1 j (by omega), stI_e, if_neg (by omega)]
    · by_cases q : j = y
      · rw [q, f1 y (by omega), stI_e, if_pos rfl]
      · exact f2 j (by omega) h2
    · rw [s_Model_text_244]
      unfold s_Model_text_244_b
      rw [if_neg (show ¬ (290 : Int32) ≤ nI y from nI_ge (b := 290) (by omega) (by omega)), if_pos (ib_nI (show y < 290 by omega) (by omega)), nI_clamp (show y < 2 ^ 31 by omega)]
      simp only [xl]
      rw [nI_1, f3, stF_stI]
theorem cp346 : ∀ (m n y : Nat) (τ : LH), y + m = 16 → m < n → ∃ F : Nat → Int32, (∀ j, j < 32 + y ∨ 48 ≤ j → F j = τ.1 583 j) ∧ (∀ j, 32 + y ≤ j → j < 48 → F j = -1) ∧ s_Model_text_346 p0 n (nI y) τ = some ((stF τ 583 F).1 570 27, stI (stI (stI (stF τ 583 F) 570 57 0) 570 46 0) 570 59 0) := by
  intro m
  induction m with
  | zero =>
    intro n y τ hy hn
    obtain ⟨n, rfl⟩ : ∃ q, n = q + 1 := ⟨n - 1, by omega⟩
    refine ⟨τ.1 583, fun _ _ => rfl, fun j h1 h2 => by omega, ?_⟩
    rw [s_Model_text_346, stF_id]
    unfold s_Model_text_346_b
    rw [if_pos (show (16 : Int32) ≤ nI y from nI_le (a := 16) (by omega) (by omega))]
    simp only [xl]
    rw [stI_570, if_neg (by omega), stI_570, if_neg (by omega), stI_570, if_neg (by omega)]
  | succ m ih =>
    intro n y τ hy hn
    obtain ⟨n, rfl⟩ : ∃ q, n = q + 1 := ⟨n - 1, by omega⟩
    obtain ⟨F, f1, f2, f3⟩ := ih n (y + 1) (stI τ 583 (32 + y) (-1)) (by omega) (by omega)
    refine ⟨F, fun j hj => ?_, fun j h1 h2 => ?_, ?_⟩
    · rw [f1 j (by omega), stI_e, if_neg (by omega)]
    · by_cases q : j = 32 + y
      · rw [q, f1 _ (by omega), stI_e, if_pos rfl]
      · exact f2 j (by omega) h2
    · rw [s_Model_text_346]
      unfold s_Model_text_346_b
      rw [if_neg (show ¬ (16 : Int32) ≤ nI y from nI_ge (b := 16) (by omega) (by omega)), show (32 : Int32) + nI y = nI (32 + y) from nI_add 32 y, if_pos (ib_nI (show 32 + y < 290 by omega) (by omega)), nI_clamp (show 32 + y < 2 ^ 31 by omega)]
      simp only [xl]
      rw [nI_1, f3, stF_stI]
/-- the sitters as they begin -/
theorem cp266 {P : Nat} {b k : Nat → Nat} (hP8 : P ≤ 8) (hb : ∀ p, p < P → b p ≤ 8) : ∀ (m n p : Nat) (τ : LH), p + m = P → m < n → τ.1 570 27 = nI P → (∀ q, q < P → τ.1 577 (4 * q) = nI (b q) ∧ τ.1 577 (4 * q + 3) = nI (k q)) → ∃ F : Nat → Int32, (∀ j, (j < 4 * p ∨ 4 * P ≤ j ∨ j % 4 = 3) → F j = τ.1 583 j) ∧ (∀ q, p ≤ q → q < P → F (4 * q) = (if b q = 8 then -1 else nI (b q)) ∧ F (4 * q + 1) = -1 ∧ F (4 * q + 2) = nI (k q)) ∧ s_Model_text_266 p0 n (nI p) τ = s_Model_text_346 p0 FUEL 0 (stF τ 583 F) := by
  intro m
  induction m with
  | zero =>
    intro n p τ hp hn h27 hv
    obtain ⟨n, rfl⟩ : ∃ q, n = q + 1 := ⟨n - 1, by omega⟩
    refine ⟨τ.1 583, fun _ _ => rfl, fun q h1 h2 => by omega, ?_⟩
    rw [s_Model_text_266, stF_id]
    unfold s_Model_text_266_b
    rw [h27, if_pos (nI_le (by omega) (by omega))]
  | succ m ih =>
    intro n p τ hp hn h27 hv
    obtain ⟨n, rfl⟩ : ∃ q, n = q + 1 := ⟨n - 1, by omega⟩
    obtain ⟨v1, v2⟩ := hv p (by omega)
    have hb8 := hb p (by omega)
    obtain ⟨x, hx⟩ : ∃ x : Int32, x = if b p = 8 then -1 else nI (b p) := ⟨_, rfl⟩
    have n7 : ∀ bb, bb ≠ 583 → (stI (stI (stI τ 583 (4 * p) x) 583 (4 * p + 1) (-1)) 583 (4 * p + 2) (nI (k p))).1 bb = τ.1 bb := fun bb h => by rw [stI_n h, stI_n h, stI_n h]
    obtain ⟨F, f1, f2, f3⟩ := ih n (p + 1) (stI (stI (stI τ 583 (4 * p) x) 583 (4 * p + 1) (-1)) 583 (4 * p + 2) (nI (k p))) (by omega) (by omega) (by rw [n7 570 (by omega)]; exact h27) (fun q hq => by rw [n7 577 (by omega)]; exact hv q hq)
    refine ⟨F, fun j hj => ?_, fun q h1 h2 => ?_, ?_⟩
    · rw [f1 j (by omega), stI_e, if_neg (by omega), stI_e, if_neg (by omega), stI_e, if_neg (by omega)]
    · by_cases y : q = p
      · subst y
        refine ⟨?_, ?_, ?_⟩
        · rw [f1 _ (by omega), stI_e, if_neg (by omega), stI_e, if_neg (by omega), stI_e, if_pos rfl, hx]
        · rw [f1 _ (by omega), stI_e, if_neg (by omega), stI_e, if_pos rfl]
        · rw [f1 _ (by omega), stI_e, if_pos rfl]
      · exact f2 q (by omega) h2
    · have e306 : s_Model_text_306 p0 (s_Model_text_266 p0 n) (nI p) (nI (4 * p)) x τ = s_Model_text_266 p0 n (nI (p + 1)) (stI (stI (stI τ 583 (4 * p) x) 583 (4 * p + 1) (-1)) 583 (4 * p + 2) (nI (k p))) := by
        unfold s_Model_text_306
        rw [c4, show nI (p) + 1 = nI (p + 1) from nI_1 p, show nI (4 * p) + 3 = nI (4 * p + 3) from nI_add (4 * p) 3, show nI (4 * p) + 2 = nI (4 * p + 2) from nI_add (4 * p) 2]
        rw [show nI (4 * p) + 1 = nI (4 * p + 1) from nI_1 _]
        simp only [xl, if_pos (ib_nI (show 4 * p < 290 by omega) (show 290 < 2 ^ 31 by omega)), if_pos (ib_nI (show 4 * p + 1 < 290 by omega) (show 290 < 2 ^ 31 by omega)), if_pos (ib_nI (show 4 * p + 2 < 290 by omega) (show 290 < 2 ^ 31 by omega)), if_pos (ib_nI (show 4 * p + 3 < 32 by omega) (show 32 < 2 ^ 31 by omega)), nI_clamp (show 4 * p < 2 ^ 31 by omega), nI_clamp (show 4 * p + 1 < 2 ^ 31 by omega), nI_clamp (show 4 * p + 2 < 2 ^ 31 by omega), nI_clamp (show 4 * p + 3 < 2 ^ 31 by omega), stI_n (show 577 ≠ 583 by omega), v2]
      rw [s_Model_text_266]
      unfold s_Model_text_266_b
      rw [h27, if_neg (nI_ge (by omega) (by omega)), c4, if_pos (ib_nI (show 4 * p < 32 by omega) (by omega)), if_pos (ib_nI (show 4 * p < 32 by omega) (by omega)), nI_clamp (show 4 * p < 2 ^ 31 by omega), v1]
      by_cases q8 : b p = 8
      · rw [if_pos q8] at hx
        rw [if_pos (show nI (b p) = 8 by rw [q8]; rfl), ← hx, e306, f3, stF_stI, stF_stI, stF_stI]
      · rw [if_neg q8] at hx
        rw [if_neg (show ¬ nI (b p) = 8 from fun z => q8 (nI_ij (b := 8) (by omega) (by omega) z)), ← hx, e306, f3, stF_stI, stF_stI, stF_stI]
end
