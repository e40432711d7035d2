/-! been: counting what fits, in both -/
/-- the i-th of those that fit, from k on, counted from y -/
def fiR (f : Nat → Bool) (x : Int32) : Nat → Nat → Int32 → Int32
  | 0, _, y => if x = -1 then y else -1
  | m + 1, k, y => if f k = true then (if y = x then nI k else fiR f x m (k + 1) (y + 1)) else fiR f x m (k + 1) y
theorem fiR_cut {f : Nat → Bool} {x : Int32} : ∀ (m k : Nat) (y : Int32), (∀ j, k ≤ j → f j = false) → fiR f x m k y = if x = -1 then y else -1 := by
  intro m
  induction m with
  | zero => intro k y _; rfl
  | succ m ih =>
    intro k y h
    show (if f k = true then (if y = x then nI k else fiR f x m (k + 1) (y + 1)) else fiR f x m (k + 1) y) = _
    rw [h k (Nat.le_refl k), if_neg (show ¬ false = true by decide)]
    exact ih (k + 1) y (fun j hj => h j (by omega))
theorem fiR_app {f : Nat → Bool} {x : Int32} : ∀ (m r k : Nat) (y : Int32), (∀ j, k + m ≤ j → f j = false) → fiR f x (m + r) k y = fiR f x m k y := by
  intro m
  induction m with
  | zero =>
    intro r k y h
    rw [Nat.zero_add, fiR_cut r k y h]
    rfl
  | succ m ih =>
    intro r k y h
    rw [show m + 1 + r = (m + r) + 1 by omega]
    show (if f k = true then (if y = x then nI k else fiR f x (m + r) (k + 1) (y + 1)) else fiR f x (m + r) (k + 1) y) = if f k = true then (if y = x then nI k else fiR f x m (k + 1) (y + 1)) else fiR f x m (k + 1) y
    rw [ih r (k + 1) _ (fun j hj => h j (by omega)), ih r (k + 1) _ (fun j hj => h j (by omega))]
theorem c_fit {σ : LH} {f : Nat → Bool} {x : Int32} (hf : ∀ s, s < 1024 → σ.1 86 s = if f s = true then 1 else 0) : ∀ (m g k : Nat) (y : Int32), k + m = 1024 → m < g → s_Branches_fitting_4 x g y (nI k) σ = some (fiR f x m k y, σ) := by
  intro m
  induction m with
  | zero =>
    intro g k y hk hg
    obtain ⟨g, rfl⟩ : ∃ q, g = q + 1 := ⟨g - 1, by omega⟩
    have e : k = 1024 := by omega
    subst e
    rw [s_Branches_fitting_4]
    unfold s_Branches_fitting_4_b s_Branches_fitting_51
    rw [if_pos (show (1024 : Int32) ≤ nI 1024 from Int32.le_refl _)]
    show _ = some (if x = -1 then y else -1, σ)
    by_cases q : x = -1
    · rw [if_pos q, if_pos q]
    · rw [if_neg q, if_neg q]
  | succ m ih =>
    intro g k y hk hg
    obtain ⟨g, rfl⟩ : ∃ q, g = q + 1 := ⟨g - 1, by omega⟩
    rw [s_Branches_fitting_4]
    unfold s_Branches_fitting_4_b s_Branches_fitting_35
    rw [if_neg (show ¬ (1024 : Int32) ≤ nI k from nI_ge (b := 1024) (by omega) (by omega)), if_pos (ib_nI (by omega) (by omega)), nI_clamp (show k < 2 ^ 31 by omega), hf k (by omega)]
    show _ = some (if f k = true then (if y = x then nI k else fiR f x m (k + 1) (y + 1)) else fiR f x m (k + 1) y, σ)
    by_cases q : f k = true
    · rw [if_pos q, if_pos q, if_neg (show ¬ (1 : Int32) = 0 by decide)]
      by_cases q2 : y = x
      · rw [if_pos q2, if_pos q2]
      · rw [if_neg q2, if_neg q2, xl_so, nI_1, xl_so]
        exact ih g (k + 1) (y + 1) (by omega) (by omega)
    · rw [if_neg q, if_neg q, if_pos rfl, nI_1, xl_so]
      exact ih g (k + 1) y (by omega) (by omega)
/-- no fits left over from before -/
theorem c_clear : ∀ (m f y : Nat) (σ : LH), y + m = 1024 → m < f → ∃ f' σ', s_Branches_findSets_56 f (nI y) σ = s_Branches_findSets_56 (f' + 1) (nI 1024) σ' ∧ (∀ b, b ≠ 86 → σ'.1 b = σ.1 b) ∧ σ'.2 = σ.2 ∧ (∀ j, j < y → σ'.1 86 j = σ.1 86 j) ∧ ∀ j, y ≤ j → j < 1024 → σ'.1 86 j = 0 := by
  intro m
  induction m with
  | zero =>
    intro f y σ hy hf
    obtain ⟨f, rfl⟩ : ∃ q, f = q + 1 := ⟨f - 1, by omega⟩
    have e : y = 1024 := by omega
    subst e
    exact ⟨f, σ, rfl, fun _ _ => rfl, rfl, fun _ _ => rfl, fun j h1 h2 => absurd h1 (by omega)⟩
  | succ m ih =>
    intro f y σ hy hf
    obtain ⟨f, rfl⟩ : ∃ q, f = q + 1 := ⟨f - 1, by omega⟩
    obtain ⟨f', σ', e1, e2, e3, e4, e5⟩ := ih f (y + 1) (stI σ 86 y 0) (by omega) (by omega)
    refine ⟨f', σ', ?_, fun b hb => (e2 b hb).trans (stI_n hb), e3, fun j hj => ?_, fun j h1 h2 => ?_⟩
    · rw [← e1]
      conv => lhs; rw [s_Branches_findSets_56]
      unfold s_Branches_findSets_56_b
      rw [if_neg (show ¬ (1024 : Int32) ≤ nI y from nI_ge (b := 1024) (by omega) (by omega)), if_pos (ib_nI (by omega) (by omega)), nI_clamp (show y < 2 ^ 31 by omega), show vp_nar .boolean 0 = 0 from rfl, xl_so, nI_1, xl_so]
    · rw [e4 j (by omega), stI_e, if_neg (by omega)]
    · by_cases q : j = y
      · rw [e4 j (by omega), stI_e, if_pos q]
      · exact e5 j (by omega) h2
