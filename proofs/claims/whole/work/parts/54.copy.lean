/-! the class: a hall taken over from another -/
def u1 (w : Wd) (c : Nat) (f : Nat → Int32) : Wd := fun d => if d = c then f else w d
theorem u1_s {w : Wd} {c : Nat} {f : Nat → Int32} : u1 w c f c = f := by simp [u1]
theorem u1_c {w : Wd} {c d : Nat} {f : Nat → Int32} (h : d ≠ c) : u1 w c f d = w d := by simp [u1, h]
theorem sH_stF {σ : LH} {h c : Nat} {w : Wd} {f : Nat → Int32} (hc : c < 9) : stF (sH σ h w) (h + c) f = sH σ h (u1 w c f) := by
  unfold stF sH u1
  refine Prod.ext ?_ rfl
  funext b
  show (if b = h + c then f else if h ≤ b ∧ b < h + 9 then w (b - h) else σ.1 b) = if h ≤ b ∧ b < h + 9 then (if b - h = c then f else w (b - h)) else σ.1 b
  by_cases q : b = h + c
  · rw [if_pos q, if_pos (by omega), if_pos (by omega)]
  · rw [if_neg q]
    by_cases q2 : h ≤ b ∧ b < h + 9
    · rw [if_pos q2, if_pos q2, if_neg (by omega)]
    · rw [if_neg q2, if_neg q2]
theorem sH_off {σ : LH} {h b : Nat} {w : Wd} (hb : b < h ∨ h + 9 ≤ b) : (sH σ h w).1 b = σ.1 b := hb.elim sH_lo sH_hi
/-- one taken over: all but the log -/
def wBeg (x y : Wd) : Wd := u2 (u2 (u2 (u1 (u1 (u1 (u1 (u1 (u1 (u1 x 1 (va_cpy (y 1) (x 1) 0 0 8)) 2 (va_cpy (y 2) (x 2) 0 0 8)) 3 (va_cpy (y 3) (x 3) 0 0 8)) 4 (va_cpy (y 4) (x 4) 0 0 8)) 5 (va_cpy (y 5) (x 5) 0 0 8)) 6 (va_cpy (y 6) (x 6) 0 0 8)) 7 (va_cpy (y 7) (x 7) 0 0 8)) 0 7 (y 0 7)) 0 8 (y 0 8)) 0 10 (y 0 10)
theorem h_beginAs {σ : LH} {a b : Nat} {x y : Wd} (hab : b + 9 ≤ a ∨ a + 9 ≤ b) (hy : ∀ c, c < 9 → σ.1 (b + c) = y c) : s_Hall_beginAs a b (sH σ a x) = some (sH σ a (wBeg x y)) := by
  have t0 : Int32.toNatClampNeg 0 = 0 := by decide
  have t8 : Int32.toNatClampNeg 8 = 8 := by decide
  have hb : ∀ (w : Wd) c, c < 9 → (sH σ a w).1 (b + c) = y c := fun w c hc => (sH_off (by omega)).trans (hy c hc)
  have hb0 : ∀ (w : Wd), (sH σ a w).1 b = y 0 := fun w => hb w 0 (by omega)
  unfold s_Hall_beginAs
  simp only [xl, t0, t8]
  rw [hb x 1 (by omega), sH_in (c := 1) (by omega), sH_stF (c := 1) (by omega)]
  rw [hb _ 2 (by omega), sH_in (c := 2) (by omega), sH_stF (c := 2) (by omega), u1_c (by omega)]
  rw [hb _ 3 (by omega), sH_in (c := 3) (by omega), sH_stF (c := 3) (by omega), u1_c (by omega), u1_c (by omega)]
  rw [hb _ 4 (by omega), sH_in (c := 4) (by omega), sH_stF (c := 4) (by omega), u1_c (by omega), u1_c (by omega), u1_c (by omega)]
  rw [hb _ 5 (by omega), sH_in (c := 5) (by omega), sH_stF (c := 5) (by omega), u1_c (by omega), u1_c (by omega), u1_c (by omega), u1_c (by omega)]
  rw [hb _ 6 (by omega), sH_in (c := 6) (by omega), sH_stF (c := 6) (by omega), u1_c (by omega), u1_c (by omega), u1_c (by omega), u1_c (by omega), u1_c (by omega)]
  rw [hb _ 7 (by omega), sH_in (c := 7) (by omega), sH_stF (c := 7) (by omega), u1_c (by omega), u1_c (by omega), u1_c (by omega), u1_c (by omega), u1_c (by omega), u1_c (by omega)]
  rw [hb0, sH_stI0, hb0, sH_stI0, hb0, sH_stI0]
  rfl
theorem h_copyFrom {σ : LH} {a b : Nat} {x y : Wd} (hab : b + 9 ≤ a ∨ a + 9 ≤ b) (hy : ∀ c, c < 9 → σ.1 (b + c) = y c) : s_Hall_copyFrom a b (sH σ a x) = some (sH σ a (u1 (wBeg x y) 8 (va_cpy (y 8) (x 8) 0 0 240))) := by
  have t0 : Int32.toNatClampNeg 0 = 0 := by decide
  have t8 : Int32.toNatClampNeg 240 = 240 := by decide
  have hb : ∀ (w : Wd) c, c < 9 → (sH σ a w).1 (b + c) = y c := fun w c hc => (sH_off (by omega)).trans (hy c hc)
  unfold s_Hall_copyFrom
  rw [h_beginAs hab hy]
  simp only [xb1, xl, t0, t8]
  rw [hb _ 8 (by omega), sH_in (c := 8) (by omega), sH_stF (c := 8) (by omega)]
  have : wBeg x y 8 = x 8 := by
    unfold wBeg
    rw [u2_c (by omega), u2_c (by omega), u2_c (by omega), u1_c (by omega), u1_c (by omega), u1_c (by omega), u1_c (by omega), u1_c (by omega), u1_c (by omega), u1_c (by omega)]
  rw [this]
/-- alike as far as it tells -/
def WE (w w' : Wd) : Prop := (∀ c, 1 ≤ c → c ≤ 7 → ∀ i, i < 8 → w' c i = w c i) ∧ w' 0 7 = w 0 7 ∧ w' 0 8 = w 0 8 ∧ w' 0 10 = w 0 10
theorem va_cpy_in {f g : Nat → Int32} {n i : Nat} (h : i < n) : va_cpy f g 0 0 n i = f i := by
  show (if 0 ≤ i ∧ i < 0 + n then f (0 + (i - 0)) else g i) = f i
  rw [if_pos (by omega)]
  exact congrArg f (by omega)
theorem wBeg_e {x y : Wd} : WE y (wBeg x y) := by
  refine ⟨fun c h1 h7 i hi => ?_, ?_, ?_, ?_⟩
  · have hc : c = 1 ∨ c = 2 ∨ c = 3 ∨ c = 4 ∨ c = 5 ∨ c = 6 ∨ c = 7 := by omega
    unfold wBeg
    rw [u2_c (by omega), u2_c (by omega), u2_c (by omega)]
    rcases hc with rfl | rfl | rfl | rfl | rfl | rfl | rfl
    · rw [u1_c (by omega), u1_c (by omega), u1_c (by omega), u1_c (by omega), u1_c (by omega), u1_c (by omega), u1_s]; exact va_cpy_in hi
    · rw [u1_c (by omega), u1_c (by omega), u1_c (by omega), u1_c (by omega), u1_c (by omega), u1_s]; exact va_cpy_in hi
    · rw [u1_c (by omega), u1_c (by omega), u1_c (by omega), u1_c (by omega), u1_s]; exact va_cpy_in hi
    · rw [u1_c (by omega), u1_c (by omega), u1_c (by omega), u1_s]; exact va_cpy_in hi
    · rw [u1_c (by omega), u1_c (by omega), u1_s]; exact va_cpy_in hi
    · rw [u1_c (by omega), u1_s]; exact va_cpy_in hi
    · rw [u1_s]; exact va_cpy_in hi
  · unfold wBeg
    rw [u2_i (by omega), u2_i (by omega), u2_s]
  · unfold wBeg
    rw [u2_i (by omega), u2_s]
  · unfold wBeg
    exact u2_s
theorem wCop_e {x y : Wd} : WE y (u1 (wBeg x y) 8 (va_cpy (y 8) (x 8) 0 0 240)) ∧ ∀ i, i < 240 → u1 (wBeg x y) 8 (va_cpy (y 8) (x 8) 0 0 240) 8 i = y 8 i := by
  obtain ⟨h1, h2, h3, h4⟩ := wBeg_e (x := x) (y := y)
  refine ⟨⟨fun c q1 q7 i hi => by rw [u1_c (by omega)]; exact h1 c q1 q7 i hi, ?_, ?_, ?_⟩, fun i hi => by rw [u1_s]; exact va_cpy_in hi⟩
  · rw [u1_c (by omega)]; exact h2
  · rw [u1_c (by omega)]; exact h3
  · rw [u1_c (by omega)]; exact h4
theorem WE.Rw {S P : Nat} {w w' : Wd} {A B : Nat → Int32} (h : Rw S P w A) (e : WE w w') (hS8 : S ≤ 8) (hP8 : P ≤ 8) (hB : ∀ j, j < 49 → B j = A j) : Rw S P w' B := by
  obtain ⟨e1, e2, e3, e4⟩ := e
  obtain ⟨c1, c2, c3, c4, c5, c6, c7, c8⟩ := h
  refine ⟨fun p hp => ?_, fun p hp => ?_, fun p hp => ?_, fun p hp => ?_, fun s hs => ?_, fun s hs => ?_, fun s hs => ?_, ?_⟩
  · rw [e1 1 (by omega) (by omega) p (by omega), hB _ (by omega)]; exact c1 p hp
  · rw [e1 2 (by omega) (by omega) p (by omega), hB _ (by omega)]; exact c2 p hp
  · rw [e1 3 (by omega) (by omega) p (by omega), hB _ (by omega)]; exact c3 p hp
  · rw [e1 4 (by omega) (by omega) p (by omega), hB _ (by omega)]; exact c4 p hp
  · rw [e1 5 (by omega) (by omega) s (by omega)]; exact (c5 s hs).cg (fun p hp => hB _ (by omega))
  · rw [e1 6 (by omega) (by omega) s (by omega), hB _ (by omega)]; exact c6 s hs
  · rw [e1 7 (by omega) (by omega) s (by omega), hB _ (by omega)]; exact c7 s hs
  · rw [e2, hB _ (by omega)]; exact c8
theorem WI.cg {S P mm : Nat} {A B : Nat → Int32} (h : WI S P mm A) (hS8 : S ≤ 8) (hP8 : P ≤ 8) (hB : ∀ j, j < 50 → B j = A j) : WI S P mm B := by
  obtain ⟨⟨h1, h1', h1''⟩, h2, h3, h4, h5⟩ := h
  refine ⟨⟨fun p hp => ?_, ?_, ?_⟩, fun p hp => ?_, fun p hp => ?_, fun s hs => ?_, fun s hs z p hp => ?_⟩
  · rw [hB _ (by omega)]; exact h1 p hp
  · rw [hB _ (by omega)]; exact h1'
  · rw [hB _ (by omega)]; exact h1''
  · rw [hB _ (by omega), hB _ (by omega)]; exact h2 p hp
  · rw [hB _ (by omega)]; exact h3 p hp
  · rw [hB _ (by omega), hB _ (by omega)]; exact h4 s hs
  · rw [hB _ (by omega)] at z ⊢; exact h5 s hs z p hp
theorem WE.pick {σ : LH} {S P r : Nat} {w w' : Wd} (e : WE w w') (hx : ∀ p, p < P → plc S (w 1 p)) (hS8 : S ≤ 8) (hP8 : P ≤ 8) : pickC σ S P r w' = pickC σ S P r w :=
  mvR_cg (fun s hs => tkR_cg (fun _ _ _ _ => rfl) (fun _ _ => rfl) (fun _ _ => rfl) (fun _ _ => rfl) (fun p hp => e.1 1 (by omega) (by omega) p (by omega)) hx hS8 hs P 0 none 0 (by omega) (fun j hj => by cases hj)) (fun _ _ => rfl) (fun s hs => e.1 5 (by omega) (by omega) s (by omega)) (fun s hs => e.1 6 (by omega) (by omega) s (by omega)) S 0 none none (by omega) (fun j hj => by cases hj)
theorem WE.SOK {σ : LH} {S P n : Nat} {w w' : Wd} (e : WE w w') (h : SOK σ S P n w) (hx : ∀ p, p < P → plc S (w 1 p)) (hS8 : S ≤ 8) (hP8 : P ≤ 8) : SOK σ S P n w' := by
  rcases h with z | ⟨n', r', z1, z2, z3, z4⟩
  · exact Or.inl (e.2.2.2.trans z)
  · exact Or.inr ⟨n', r', z1, z2, e.2.2.2.trans z3, fun q => by rw [e.pick hx hS8 hP8]; exact z4 q⟩
/-- a hall and a world that stand for the same -/
def HR (σ : LH) (S P n mm M : Nat) (w : Wd) (A : Nat → Int32) : Prop := Rw S P w A ∧ WI S P mm A ∧ SOK σ S P n w ∧ w 0 8 = nI M
theorem HR.cp {σ : LH} {S P n mm M : Nat} {w w' : Wd} {A B : Nat → Int32} (h : HR σ S P n mm M w A) (e : WE w w') (hS8 : S ≤ 8) (hP8 : P ≤ 8) (hB : ∀ j, j < 50 → B j = A j) : HR σ S P n mm M w' B := by
  obtain ⟨h1, h2, h3, h4⟩ := h
  exact ⟨WE.Rw h1 e hS8 hP8 (fun j hj => hB j (by omega)), h2.cg hS8 hP8 hB, e.SOK h3 (fun p hp => by rw [h1.c1 p hp]; exact h2.1.1 p hp) hS8 hP8, e.2.2.1.trans h4⟩
theorem Lg.cp {w w' : Wd} {A B : Nat → Int32} {M : Nat} (h : Lg w A M) (e : w' 0 8 = w 0 8) (e8 : ∀ i, i < 240 → w' 8 i = w 8 i) (hB : ∀ j, 49 ≤ j → j < 50 + 4 * min M 60 → B j = A j) : Lg w' B M := by
  obtain ⟨h1, h2, h3⟩ := h
  refine ⟨e.trans h1, by rw [hB _ (by omega) (by omega)]; exact h2, fun i c hi hc => ?_⟩
  rw [hB _ (by omega) (by omega), e8 _ (by have := Nat.mod_lt (M - 1 - i) (show 0 < 60 by omega); omega)]
  exact h3 i c hi hc
