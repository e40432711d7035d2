/-! the class: halls and minutes as functions of a block -/
def itr {α : Type} (f : Nat → α → α) : Nat → Nat → α → α
  | 0, _, a => a
  | m + 1, k, a => itr f m (k + 1) (f k a)
theorem h_isSitter {p : Nat} (hp : p < 8) {σ : LH} : s_Hall_isSitter (nI p) σ = some (1, σ) := by
  simp only [s_Hall_isSitter, s_Hall_isSitter_15, if_neg (nI_pos (n := p) (by omega)), if_neg (nI_ge (a := p) (b := 8) hp (by omega)), show (8 : Int32) = nI 8 from rfl]
  rw [if_pos (Or.inr rfl)]
theorem h_isSeat {x : Int32} {σ : LH} : s_Hall_isSeat x σ = some (if 0 ≤ x ∧ x < 8 then 1 else 0, σ) := by
  unfold s_Hall_isSeat
  by_cases q1 : x < 0
  · rw [if_pos q1, if_neg (fun q => Int32.not_le.mpr q1 q.1)]
    unfold s_Hall_isSeat_14 s_Hall_isSeat_15
    rw [if_pos (Or.inl rfl)]
  · rw [if_neg q1]
    by_cases q2 : 8 ≤ x
    · rw [if_pos q2, if_neg (fun q => Int32.not_le.mpr q.2 q2)]
      unfold s_Hall_isSeat_14 s_Hall_isSeat_15
      rw [if_pos (Or.inl rfl)]
    · rw [if_neg q2, if_pos ⟨Int32.not_lt.mp q1, Int32.not_le.mp q2⟩]
      unfold s_Hall_isSeat_15
      rw [if_pos (Or.inr rfl)]
/-- p gets up for d minutes (b: and keeps) -/
def wUp (p : Nat) (d b : Int32) (w : Wd) : Wd :=
  if b = 0 ∨ w 3 p ≤ 0 ∨ ¬ (0 ≤ w 1 p ∧ w 1 p < 8) then u2 (wPut p (-2) w) 2 p (w 0 7 + d)
  else u2 (u2 (u2 (wPut p (-2) w) 2 p (w 0 7 + d)) 6 (w 1 p).toNatClampNeg (nI p)) 7 (w 1 p).toNatClampNeg (w 0 7 + w 3 p)
theorem wOff_c {p : Nat} {w : Wd} {c : Nat} (h : c ≠ 5) : wOff p w c = w c := by
  unfold wOff
  split
  · exact u2_c h
  · rfl
theorem wOn_c {p : Nat} {to : Int32} {w : Wd} {c : Nat} (h : c ≠ 5) : wOn p to w c = w c := by
  unfold wOn
  split
  · exact u2_c h
  · rfl
theorem wPut_c {p : Nat} {to : Int32} {w : Wd} {c : Nat} (h0 : c ≠ 0) (h1 : c ≠ 1) (h2 : c ≠ 2) (h5 : c ≠ 5) : wPut p to w c = w c := by
  unfold wPut
  rw [u2_c h0, u2_c h2, u2_c h1, wOn_c h5, wOff_c h5]
theorem wPut_0 {p : Nat} {to : Int32} {w : Wd} {i : Nat} (h : i ≠ 10) : wPut p to w 0 i = w 0 i := by
  unfold wPut
  rw [u2_i h, u2_c (by omega), u2_c (by omega), wOn_c (by omega), wOff_c (by omega)]
theorem h_getUp {σ : LH} {h p : Nat} {d b : Int32} {w : Wd} (hp : p < 8) : s_Hall_getUp h (nI p) d b (sH σ h w) = some (sH σ h (wUp p d b w)) := by
  have i8 : ib (nI p) 8 := ib_nI hp (by omega)
  have cl : (nI p).toNatClampNeg = p := nI_clamp (by omega)
  unfold s_Hall_getUp
  rw [h_isSitter hp]
  simp only [xb2, if_neg (show ¬ (1 : Int32) = 0 by decide), if_pos i8, xl, cl]
  rw [h_put hp]
  simp only [xb1]
  rw [sH_in (c := 1) (by omega), sH_in0, wPut_0 (by omega), sH_stI (c := 2) (by omega)]
  generalize hw1 : u2 (wPut p (-2) w) 2 p (w 0 7 + d) = w1
  have e07 : w1 0 7 = w 0 7 := by rw [← hw1, u2_c (by omega), wPut_0 (by omega)]
  have e3 : w1 3 = w 3 := by rw [← hw1, u2_c (by omega), wPut_c (by omega) (by omega) (by omega) (by omega)]
  unfold wUp
  by_cases q0 : b = 0
  · rw [if_pos q0, if_pos (Or.inl q0), hw1]
    rfl
  · rw [if_neg q0, sH_in (c := 3) (by omega), e3]
    by_cases q1 : w 3 p ≤ 0
    · rw [if_pos q1, if_pos (Or.inr (Or.inl q1)), hw1]
      rfl
    · rw [if_neg q1, h_isSeat]
      simp only
      by_cases q2 : 0 ≤ w 1 p ∧ w 1 p < 8
      · rw [if_pos q2, if_neg (show ¬ (1 : Int32) = 0 by decide), if_pos (ib8 (Int32.not_lt.mpr q2.1) (Int32.not_le.mpr q2.2)), if_neg (show ¬ (b = 0 ∨ w 3 p ≤ 0 ∨ ¬ (0 ≤ w 1 p ∧ w 1 p < 8)) by simp [q0, q1, q2]), hw1]
        simp only [if_pos (ib8 (Int32.not_lt.mpr q2.1) (Int32.not_le.mpr q2.2))]
        rw [sH_stI (c := 6) (by omega), sH_in0, sH_in (c := 3) (by omega), u2_c (by omega), u2_c (c := 6) (d := 3) (by omega), e07, e3, sH_stI (c := 7) (by omega)]
        rfl
      · rw [if_neg q2, if_pos rfl, if_pos (Or.inr (Or.inr q2)), hw1]
        rfl
theorem h_isFree {σ : LH} {h s : Nat} {w : Wd} (hs : s < 8) : s_Hall_isFree h (nI s) (sH σ h w) = some (if w 5 s = -1 ∧ w 6 s = -1 then 1 else 0, sH σ h w) := by
  have i8 : ib (nI s) 8 := ib_nI hs (by omega)
  have cl : (nI s).toNatClampNeg = s := nI_clamp (by omega)
  unfold s_Hall_isFree
  rw [if_neg (nI_pos (n := s) (by omega)), if_neg (show ¬ (8 : Int32) ≤ nI s from nI_ge (b := 8) hs (by omega)), if_pos i8, cl, sH_in (c := 5) (by omega)]
  by_cases q1 : w 5 s = -1
  · rw [if_pos q1, if_pos i8, sH_in (c := 6) (by omega)]
    by_cases q2 : w 6 s = -1
    · rw [if_pos q2, if_pos ⟨q1, q2⟩]
      unfold s_Hall_isFree_35
      rw [if_pos (Or.inr rfl)]
    · rw [if_neg q2, if_neg (fun q => q2 q.2)]
      unfold s_Hall_isFree_34 s_Hall_isFree_35
      rw [if_pos (Or.inl rfl)]
  · rw [if_neg q1, if_neg (fun q => q1 q.1)]
    unfold s_Hall_isFree_34 s_Hall_isFree_35
    rw [if_pos (Or.inl rfl)]
def wRel (s : Nat) (w : Wd) : Wd := u2 (u2 (u2 w 6 s (-1)) 7 s (-1)) 0 10 (-1)
theorem h_release {σ : LH} {h s : Nat} {w : Wd} (hs : s < 8) : s_Hall_release h (nI s) (sH σ h w) = some (sH σ h (wRel s w)) := by
  have i8 : ib (nI s) 8 := ib_nI hs (by omega)
  have cl : (nI s).toNatClampNeg = s := nI_clamp (by omega)
  unfold s_Hall_release
  rw [if_neg (nI_pos (n := s) (by omega)), if_pos (show nI s < (8 : Int32) from nI_lt (b := 8) hs (by omega)), if_pos i8]
  simp only [xl, cl, if_pos i8]
  rw [sH_stI (c := 6) (by omega), sH_stI (c := 7) (by omega), sH_stI0]
  rfl
/-- a move: the four entries, one move more, the seat -/
def wLog (p : Nat) (to : Int32) (w : Wd) (M : Nat) : Wd := u2 (u2 (u2 (u2 (u2 w 8 (M % 60 * 4) (nI p)) 8 (M % 60 * 4 + 1) (w 1 p)) 8 (M % 60 * 4 + 2) to) 8 (M % 60 * 4 + 3) (w 0 7)) 0 8 (nI (M + 1))
def wMove (p : Nat) (to : Int32) (w : Wd) (M : Nat) : Wd := wPut p to (wLog p to w M)
theorem h_moveUp {σ : LH} {h p M : Nat} {to : Int32} {w : Wd} (hp : p < 8) (hM : w 0 8 = nI M) (hM2 : M < 2 ^ 30) : s_Hall_moveUp h (nI p) to (sH σ h w) = some (sH σ h (wMove p to w M)) := by
  have i8 : ib (nI p) 8 := ib_nI hp (by omega)
  have cl : (nI p).toNatClampNeg = p := nI_clamp (by omega)
  have hr : ((w 0 8 - w 0 8 / 60 * 60) * 4) = nI (M % 60 * 4) := by
    rw [hM, show (60 : Int32) = nI 60 from rfl, pk_rem (by omega) (by omega) (by omega), show (4 : Int32) = nI 4 from rfl, pk_mul]
  have hb : M % 60 * 4 + 3 < 240 := by have := Nat.mod_lt M (show 0 < 60 by omega); omega
  unfold s_Hall_moveUp
  rw [h_isSitter hp]
  simp only [xb2, if_neg (show ¬ (1 : Int32) = 0 by decide), xl, cl]
  rw [sH_in0, hr]
  rw [if_neg (nI_pos (n := M % 60 * 4) (by omega)), show nI (M % 60 * 4) + 4 = nI (M % 60 * 4 + 4) from nI_add _ 4, if_neg (show ¬ (240 : Int32) < nI (M % 60 * 4 + 4) from nI_nlt (b := M % 60 * 4 + 4) (a := 240) (by omega) (by omega)), if_pos (ib_nI (by omega) (by omega)), if_pos i8]
  rw [show nI (M % 60 * 4) + 1 = nI (M % 60 * 4 + 1) from nI_add _ 1, show nI (M % 60 * 4) + 2 = nI (M % 60 * 4 + 2) from nI_add _ 2, show nI (M % 60 * 4) + 3 = nI (M % 60 * 4 + 3) from nI_add _ 3]
  rw [if_pos (ib_nI (by omega) (by omega)), if_pos (ib_nI (by omega) (by omega)), if_pos (ib_nI (by omega) (by omega))]
  rw [nI_clamp (show M % 60 * 4 < 2 ^ 31 by omega), nI_clamp (show M % 60 * 4 + 1 < 2 ^ 31 by omega), nI_clamp (show M % 60 * 4 + 2 < 2 ^ 31 by omega), nI_clamp (show M % 60 * 4 + 3 < 2 ^ 31 by omega)]
  rw [sH_stI (c := 8) (by omega), sH_in (c := 1) (by omega), u2_c (c := 8) (d := 1) (by omega), sH_stI (c := 8) (by omega), sH_stI (c := 8) (by omega), sH_in0, sH_stI (c := 8) (by omega)]
  unfold s_Hall_moveUp_75
  simp only [xl]
  rw [sH_stI0, sH_in0]
  simp only [u2_c (show (0 : Nat) ≠ 8 by omega), hM, nI_1]
  rw [h_put hp]
  rfl
theorem l_row {m : Nat} (hm : m < 100) {σ : LH} : s_Likings_row (nI m) σ = some (σ.1 35 m, σ) := by
  unfold s_Likings_row
  rw [if_neg (nI_pos (n := m) (by omega)), if_neg (show ¬ (100 : Int32) ≤ nI m from nI_ge (b := 100) hm (by omega)), if_pos (ib_nI hm (by omega)), nI_clamp (by omega)]
  rfl
theorem l_at {r p s : Nat} (hr : r < 100) (hp : p < 8) (hs : s < 8) {σ : LH} : s_Likings_at (nI r) (nI p) (nI s) σ = some (σ.1 34 (r * 64 + p * 8 + s), σ) := by
  unfold s_Likings_at
  have e : nI r * 64 + nI p * 8 + nI s = nI (r * 64 + p * 8 + s) := by
    rw [show (64 : Int32) = nI 64 from rfl, show (8 : Int32) = nI 8 from rfl, pk_mul, pk_mul, nI_add, nI_add]
  rw [if_pos (nI_pos' (n := s) (by omega))]
  simp only [xl]
  rw [e, if_neg (nI_pos (n := r * 64 + p * 8 + s) (by omega)), if_neg (show ¬ (6400 : Int32) ≤ nI (r * 64 + p * 8 + s) from nI_ge (b := 6400) (by omega) (by omega)), if_pos (ib_nI (by omega) (by omega)), nI_clamp (by omega)]
  rfl
theorem l_at0 {r p x : Int32} (hx : x < 0) {σ : LH} : s_Likings_at r p x σ = some (0, σ) := by
  unfold s_Likings_at
  rw [if_neg (Int32.not_le.mpr hx)]
/-- liking of p for where x is, by a table -/
def lkx (tb : Nat → Nat → Int32) (p : Nat) (x : Int32) : Int32 := if x < 0 then 0 else tb p x.toNatClampNeg
/-- a place: away, the floor, or a seat below n -/
def plc (n : Nat) (x : Int32) : Prop := x = -1 ∨ x = -2 ∨ ∃ s, s < n ∧ x = nI s
theorem l_atx {r p : Nat} {x : Int32} (hr : r < 100) (hp : p < 8) (hx : plc 8 x) {σ : LH} : s_Likings_at (nI r) (nI p) x σ = some (lkx (fun p s => σ.1 34 (r * 64 + p * 8 + s)) p x, σ) := by
  rcases hx with rfl | rfl | ⟨s, hs, rfl⟩
  · exact l_at0 (by decide)
  · exact l_at0 (by decide)
  · rw [l_at hr hp hs]
    unfold lkx
    rw [if_neg (nI_pos (n := s) (by omega)), nI_clamp (by omega)]
theorem e_isHere {σ : LH} {h p P : Nat} {w : Wd} (h39 : 39 ≤ h) (hP : σ.1 4 1 = nI P) (hP8 : P ≤ 8) (hp : p < P) : s_Evening_isHere h (nI p) (sH σ h w) = some (if w 1 p = -2 then 0 else 1, sH σ h w) := by
  unfold s_Evening_isHere
  rw [if_neg (nI_pos (n := p) (by omega)), sH_lo (b := 4) (by omega), hP, if_neg (nI_ge hp (by omega)), if_pos (ib_nI (by omega) (by omega)), nI_clamp (by omega), sH_in (c := 1) (by omega)]
  by_cases q : w 1 p = -2
  · rw [if_pos q, if_pos q]
    unfold s_Evening_isHere_30 s_Evening_isHere_31
    rw [if_pos (Or.inl rfl)]
  · rw [if_neg q, if_neg q]
    unfold s_Evening_isHere_31
    rw [if_pos (Or.inr rfl)]
/-- (1) -/
def wRelF (s : Nat) (w : Wd) : Wd := if w 6 s ≠ -1 ∧ w 7 s ≤ w 0 7 then wRel s w else w
theorem e_release_loop {σ : LH} {h S : Nat} (h39 : 39 ≤ h) (hS : σ.1 4 0 = nI S) (hS8 : S ≤ 8) : ∀ (m n k : Nat) (w : Wd), k + m = S → m < n → s_Evening_release_2 h n (nI k) (sH σ h w) = some (sH σ h (itr wRelF m k w)) := by
  intro m
  induction m with
  | zero =>
    intro n k w hk hn
    obtain ⟨n, rfl⟩ : ∃ q, n = q + 1 := ⟨n - 1, by omega⟩
    simp only [s_Evening_release_2, s_Evening_release_2_b]
    rw [sH_lo (b := 4) (by omega), hS, if_pos (nI_le (by omega) (by omega))]
    rfl
  | succ m ih =>
    intro n k w hk hn
    obtain ⟨n, rfl⟩ : ∃ q, n = q + 1 := ⟨n - 1, by omega⟩
    have i8 : ib (nI k) 8 := ib_nI (by omega) (by omega)
    have cl : (nI k).toNatClampNeg = k := nI_clamp (by omega)
    simp only [s_Evening_release_2, s_Evening_release_2_b, if_pos i8, cl]
    rw [sH_lo (b := 4) (by omega), hS, if_neg (nI_ge (by omega) (by omega)), sH_in (c := 6) (by omega), sH_in (c := 7) (by omega), sH_in0]
    have go : ∀ w' : Wd, s_Evening_release_41 h (s_Evening_release_2 h n) (nI k) (sH σ h w') = some (sH σ h (itr wRelF m (k + 1) w')) := by
      intro w'
      simp only [s_Evening_release_41, xl, nI_1]
      exact ih n (k + 1) w' (by omega) (by omega)
    show _ = some (sH σ h (itr wRelF m (k + 1) (wRelF k w)))
    by_cases q1 : w 6 k = -1
    · rw [if_pos q1, go, show wRelF k w = w from if_neg (fun q => q.1 q1)]
    · rw [if_neg q1]
      by_cases q2 : w 0 7 < w 7 k
      · rw [if_pos q2, go, show wRelF k w = w from if_neg (fun q => Int32.not_le.mpr q2 q.2)]
      · rw [if_neg q2, h_release (by omega), show wRelF k w = wRel k w from if_pos ⟨q1, Int32.not_lt.mp q2⟩]
        simp only [xb1]
        exact go _
theorem e_release {σ : LH} {h S : Nat} (h39 : 39 ≤ h) (hS : σ.1 4 0 = nI S) (hS8 : S ≤ 8) (w : Wd) : s_Evening_release h (sH σ h w) = some (sH σ h (itr wRelF S 0 w)) := e_release_loop h39 hS hS8 S FUEL 0 w (by omega) (by unfold FUEL; omega)
