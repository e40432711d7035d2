/-! numbers, blocks of cells: the ground of the pure part -/
theorem ib_nI {k n : Nat} (h : k < n) (hn : n < 2 ^ 31) : ib (nI k) n := by
  refine ⟨?_, ?_⟩ <;> rw [nI_toInt (by omega)] <;> omega
theorem nI_m1 {k : Nat} (hk : k < 2 ^ 31) : nI k ≠ -1 := by
  intro e
  have h := congrArg Int32.toInt e
  rw [nI_toInt hk, show Int32.toInt (-1) = -1 by decide] at h
  omega
theorem nI_m2 {k : Nat} (hk : k < 2 ^ 31) : nI k ≠ -2 := by
  intro e
  have h := congrArg Int32.toInt e
  rw [nI_toInt hk, show Int32.toInt (-2) = -2 by decide] at h
  omega
theorem nI_inj {a b : Nat} (ha : a < 2 ^ 31) (hb : b < 2 ^ 31) (h : nI a = nI b) : a = b := (nI_eq ha hb).mp h
/-- a block of nine cells: a hall's -/
abbrev Wd : Type := Nat → Nat → Int32
def u2 (w : Wd) (c i : Nat) (v : Int32) : Wd := fun d => if d = c then upd (w c) i v else w d
def sH (σ : LH) (h : Nat) (w : Wd) : LH := (fun b => if h ≤ b ∧ b < h + 9 then w (b - h) else σ.1 b, σ.2)
def gH (σ : LH) (h : Nat) : Wd := fun c => σ.1 (h + c)
theorem sH_in {σ : LH} {h c : Nat} {w : Wd} (hc : c < 9) : (sH σ h w).1 (h + c) = w c := by
  unfold sH
  simp only [show h ≤ h + c ∧ h + c < h + 9 from ⟨by omega, by omega⟩, if_true, and_self, Nat.add_sub_cancel_left]
theorem sH_in0 {σ : LH} {h : Nat} {w : Wd} : (sH σ h w).1 h = w 0 := sH_in (c := 0) (by omega)
theorem sH_lo {σ : LH} {h b : Nat} {w : Wd} (hb : b < h) : (sH σ h w).1 b = σ.1 b := by
  unfold sH
  have : ¬ (h ≤ b ∧ b < h + 9) := by omega
  simp only [this, if_false]
theorem sH_hi {σ : LH} {h b : Nat} {w : Wd} (hb : h + 9 ≤ b) : (sH σ h w).1 b = σ.1 b := by
  unfold sH
  have : ¬ (h ≤ b ∧ b < h + 9) := by omega
  simp only [this, if_false]
theorem sH_2 {σ : LH} {h : Nat} {w : Wd} : (sH σ h w).2 = σ.2 := rfl
theorem sH_stI {σ : LH} {h c i : Nat} {w : Wd} {v : Int32} (hc : c < 9) : stI (sH σ h w) (h + c) i v = sH σ h (u2 w c i v) := by
  unfold stI stF
  rw [sH_in hc]
  unfold sH
  refine Prod.ext ?_ rfl
  funext b
  show (if b = h + c then upd (w c) i v else if h ≤ b ∧ b < h + 9 then w (b - h) else σ.1 b) = if h ≤ b ∧ b < h + 9 then u2 w c i v (b - h) else σ.1 b
  by_cases hb : b = h + c
  · subst hb
    rw [if_pos rfl, if_pos ⟨by omega, by omega⟩]
    unfold u2
    rw [if_pos (by omega)]
  · rw [if_neg hb]
    by_cases q : h ≤ b ∧ b < h + 9
    · rw [if_pos q, if_pos q]
      unfold u2
      rw [if_neg (by omega)]
    · rw [if_neg q, if_neg q]
theorem sH_stI0 {σ : LH} {h i : Nat} {w : Wd} {v : Int32} : stI (sH σ h w) h i v = sH σ h (u2 w 0 i v) := sH_stI (c := 0) (by omega)
theorem sH_sH {σ : LH} {h : Nat} {w w' : Wd} : sH (sH σ h w) h w' = sH σ h w' := by
  unfold sH
  refine Prod.ext ?_ rfl
  funext b
  show (if h ≤ b ∧ b < h + 9 then w' (b - h) else if h ≤ b ∧ b < h + 9 then w (b - h) else σ.1 b) = if h ≤ b ∧ b < h + 9 then w' (b - h) else σ.1 b
  by_cases q : h ≤ b ∧ b < h + 9
  · rw [if_pos q, if_pos q]
  · rw [if_neg q, if_neg q, if_neg q]
theorem sH_gH {σ : LH} {h : Nat} : sH σ h (gH σ h) = σ := by
  unfold sH gH
  refine Prod.ext ?_ rfl
  funext b
  show (if h ≤ b ∧ b < h + 9 then σ.1 (h + (b - h)) else σ.1 b) = σ.1 b
  by_cases q : h ≤ b ∧ b < h + 9
  · rw [if_pos q, show h + (b - h) = b by omega]
  · rw [if_neg q]
theorem u2_s {w : Wd} {c i : Nat} {v : Int32} : u2 w c i v c i = v := by simp [u2, upd]
theorem u2_i {w : Wd} {c i j : Nat} {v : Int32} (h : j ≠ i) : u2 w c i v c j = w c j := by simp [u2, upd, h]
theorem u2_c {w : Wd} {c d i : Nat} {v : Int32} (h : d ≠ c) : u2 w c i v d = w d := by simp [u2, h]
theorem u2_e {w : Wd} {c i d j : Nat} {v : Int32} : u2 w c i v d j = if d = c ∧ j = i then v else w d j := by
  unfold u2
  by_cases h : d = c
  · subst h
    by_cases h2 : j = i
    · simp [upd, h2]
    · simp [upd, h2]
  · simp [h]
/-- a hall's own functions, from where all are to where they are -/
def wOff (p : Nat) (w : Wd) : Wd := if 0 ≤ w 1 p ∧ w 1 p < 8 then u2 w 5 (w 1 p).toNatClampNeg (-1) else w
def wOn (p : Nat) (to : Int32) (w : Wd) : Wd := if 0 ≤ to ∧ to < 8 then u2 w 5 to.toNatClampNeg (nI p) else w
def wPut (p : Nat) (to : Int32) (w : Wd) : Wd := u2 (u2 (u2 (wOn p to (wOff p w)) 1 p to) 2 p (-1)) 0 10 (-1)
theorem ib8 {x : Int32} (h1 : ¬ x < 0) (h2 : ¬ 8 ≤ x) : ib x 8 := by
  have a1 := Int32.not_lt.mp h1
  have a2 := Int32.not_le.mp h2
  have b1 := Int32.le_iff_toInt_le.mp a1
  have b2 := Int32.lt_iff_toInt_lt.mp a2
  refine ⟨by simpa using b1, by simpa using b2⟩
theorem h_put {σ : LH} {h p : Nat} {to : Int32} {w : Wd} (hp : p < 8) : s_Hall_put h (nI p) to (sH σ h w) = some (sH σ h (wPut p to w)) := by
  have i8 : ib (nI p) 8 := ib_nI hp (by omega)
  have n0 : ¬ nI p < 0 := nI_pos (by omega)
  have n8 : nI p < 8 := nI_lt (b := 8) hp (by omega)
  have cl : (nI p).toNatClampNeg = p := nI_clamp (by omega)
  have e52 : ∀ w : Wd, s_Hall_put_52 h (nI p) to (sH σ h w) = some (sH σ h (u2 (u2 (u2 w 1 p to) 2 p (-1)) 0 10 (-1))) := by
    intro w
    simp only [s_Hall_put_52, if_pos i8, xl, cl]
    rw [sH_stI (c := 1) (by omega), sH_stI (c := 2) (by omega), sH_stI0]
  have e35 : ∀ w : Wd, s_Hall_put_35 h (nI p) to (sH σ h w) = some (sH σ h (u2 (u2 (u2 (wOn p to w) 1 p to) 2 p (-1)) 0 10 (-1))) := by
    intro w
    unfold s_Hall_put_35 wOn
    by_cases q1 : to < 0
    · rw [if_pos q1, e52, if_neg (fun q => Int32.not_le.mpr q1 q.1)]
    · rw [if_neg q1]
      by_cases q2 : 8 ≤ to
      · rw [if_pos q2, e52, if_neg (fun q => Int32.not_le.mpr q.2 q2)]
      · rw [if_neg q2, if_pos (ib8 q1 q2), if_pos ⟨Int32.not_lt.mp q1, Int32.not_le.mp q2⟩]
        simp only [xl]
        rw [sH_stI (c := 5) (by omega), e52]
  unfold s_Hall_put
  rw [if_neg n0, if_pos n8, if_pos i8]
  simp only [xl, cl]
  rw [sH_in (c := 1) (by omega)]
  unfold wPut wOff
  by_cases q1 : w 1 p < 0
  · rw [if_pos q1, e35, if_neg (c := 0 ≤ w 1 p ∧ w 1 p < 8) (fun q => Int32.not_le.mpr q1 q.1)]
  · rw [if_neg q1]
    by_cases q2 : 8 ≤ w 1 p
    · rw [if_pos q2, e35, if_neg (c := 0 ≤ w 1 p ∧ w 1 p < 8) (fun q => Int32.not_le.mpr q.2 q2)]
    · rw [if_neg q2, if_pos (ib8 q1 q2), if_pos (c := 0 ≤ w 1 p ∧ w 1 p < 8) ⟨Int32.not_lt.mp q1, Int32.not_le.mp q2⟩]
      rw [sH_stI (c := 5) (by omega), e35]
