/-! text: the hall opened -/
/-- the world as it begins: nobody sits; sitters up to p put -/
def A0R (k : Nat → Nat) (j : Nat) : Int32 := if j < 32 then (if j % 4 = 2 then nI (k (j / 4)) else if j % 4 = 3 then 0 else -1) else if j < 48 then -1 else 0
def AAR (S : Nat) (b k : Nat → Nat) (p j : Nat) : Int32 := if j < 32 ∧ j % 4 = 0 ∧ j / 4 < p ∧ b (j / 4) < S then nI (b (j / 4)) else A0R k j
section
variable {S P : Nat} {b k : Nat → Nat}
theorem AAR_0 {p q : Nat} (hq : q < 8) : AAR S b k p (4 * q) = if q < p ∧ b q < S then nI (b q) else -1 := by
  unfold AAR
  rw [show 4 * q % 4 = 0 by omega, show 4 * q / 4 = q by omega]
  by_cases z : q < p ∧ b q < S
  · rw [if_pos z, if_pos ⟨by omega, rfl, z⟩]
  · rw [if_neg z, if_neg (fun y => z ⟨y.2.2.1, y.2.2.2⟩)]
    unfold A0R
    rw [if_pos (by omega), if_neg (by omega), if_neg (by omega)]
theorem AAR_1 {p q : Nat} (hq : q < 8) : AAR S b k p (4 * q + 1) = -1 := by
  unfold AAR A0R
  rw [if_neg (by omega), if_pos (by omega), if_neg (by omega), if_neg (by omega)]
theorem AAR_2 {p q : Nat} (hq : q < 8) : AAR S b k p (4 * q + 2) = nI (k q) := by
  unfold AAR A0R
  rw [if_neg (by omega), if_pos (by omega), if_pos (by omega), show (4 * q + 2) / 4 = q by omega]
theorem AAR_3 {p q : Nat} (hq : q < 8) : AAR S b k p (4 * q + 3) = 0 := by
  unfold AAR A0R
  rw [if_neg (by omega), if_pos (by omega), if_neg (by omega), if_pos (by omega)]
theorem AAR_s {p j : Nat} (h1 : 32 ≤ j) (h2 : j < 48) : AAR S b k p j = -1 := by
  unfold AAR A0R
  rw [if_neg (by omega), if_neg (by omega), if_pos h2]
theorem AAR_m {p j : Nat} (h1 : 48 ≤ j) : AAR S b k p j = 0 := by
  unfold AAR A0R
  rw [if_neg (by omega), if_neg (by omega), if_neg (by omega)]
theorem AAR_n {p j : Nat} (h : ¬ (j % 4 = 0 ∧ j / 4 = p ∧ b p < S)) : AAR S b k (p + 1) j = AAR S b k p j := by
  unfold AAR
  by_cases z : j < 32 ∧ j % 4 = 0 ∧ j / 4 < p ∧ b (j / 4) < S
  · rw [if_pos z, if_pos ⟨z.1, z.2.1, by omega, z.2.2.2⟩]
  · rw [if_neg z, if_neg (fun y => by
      by_cases x : j / 4 = p
      · exact h ⟨y.2.1, x, by rw [← x]; exact y.2.2.2⟩
      · exact z ⟨y.1, y.2.1, by omega, y.2.2.2⟩)]
theorem wPut_0i {p i : Nat} {to : Int32} {w : Wd} (hi : i ≠ 10) : wPut p to w 0 i = w 0 i := by
  unfold wPut
  rw [u2_i hi, u2_c (by omega), u2_c (by omega)]
  have e1 : ∀ w : Wd, wOn p to w 0 = w 0 := fun w => by
    unfold wOn
    by_cases q : 0 ≤ to ∧ to < 8
    · rw [if_pos q, u2_c (by omega)]
    · rw [if_neg q]
  have e2 : wOff p w 0 = w 0 := by
    unfold wOff
    by_cases q : 0 ≤ w 1 p ∧ w 1 p < 8
    · rw [if_pos q, u2_c (by omega)]
    · rw [if_neg q]
  rw [e1, e2]
theorem wPut_0x {p : Nat} {to : Int32} {w : Wd} : wPut p to w 0 10 = -1 := by
  unfold wPut
  rw [u2_s]
theorem op2 {σ : LH} : ∀ (m n y : Nat) (w : Wd), y + m = 8 → m < n → ∃ w' : Wd, (∀ c, c = 5 ∨ c = 6 ∨ c = 7 → (∀ j, j < y → w' c j = w c j) ∧ ∀ j, y ≤ j → j < 8 → w' c j = -1) ∧ (∀ c, c ≠ 5 → c ≠ 6 → c ≠ 7 → w' c = w c) ∧ s_Hall_open_2 39 4 n (nI y) (sH σ 39 w) = s_Hall_open_37 39 4 FUEL 0 (sH σ 39 w') := by
  intro m
  induction m with
  | zero =>
    intro n y w hy hn
    obtain ⟨n, rfl⟩ : ∃ q, n = q + 1 := ⟨n - 1, by omega⟩
    refine ⟨w, fun c _ => ⟨fun _ _ => rfl, fun j h1 h2 => by omega⟩, fun _ _ _ _ => rfl, ?_⟩
    rw [s_Hall_open_2]
    unfold s_Hall_open_2_b
    rw [if_pos (show (8 : Int32) ≤ nI y from nI_le (a := 8) (by omega) (by omega))]
  | succ m ih =>
    intro n y w hy hn
    obtain ⟨n, rfl⟩ : ∃ q, n = q + 1 := ⟨n - 1, by omega⟩
    obtain ⟨w', f1, f2, f3⟩ := ih n (y + 1) (u2 (u2 (u2 w 5 y (-1)) 6 y (-1)) 7 y (-1)) (by omega) (by omega)
    refine ⟨w', fun c hc => ⟨fun j hj => ?_, fun j h1 h2 => ?_⟩, fun c h1 h2 h3 => ?_, ?_⟩
    · rw [(f1 c hc).1 j (by omega), u2_e, if_neg (by omega), u2_e, if_neg (by omega), u2_e, if_neg (by omega)]
    · by_cases q : j = y
      · rw [q, (f1 c hc).1 y (by omega), u2_e, u2_e, u2_e]
        rcases hc with rfl | rfl | rfl
        · rw [if_neg (by omega), if_neg (by omega), if_pos ⟨rfl, rfl⟩]
        · rw [if_neg (by omega), if_pos ⟨rfl, rfl⟩]
        · rw [if_pos ⟨rfl, rfl⟩]
      · exact (f1 c hc).2 j (by omega) h2
    · rw [f2 c h1 h2 h3, u2_c h3, u2_c h2, u2_c h1]
    · rw [s_Hall_open_2]
      unfold s_Hall_open_2_b
      rw [if_neg (show ¬ (8 : Int32) ≤ nI y from nI_ge (b := 8) (by omega) (by omega))]
      simp only [if_pos (ib_nI (show y < 8 by omega) (show 8 < 2 ^ 31 by omega)), xl, nI_clamp (show y < 2 ^ 31 by omega)]
      rw [nI_1, sH_stI (c := 5) (by omega), sH_stI (c := 6) (by omega), sH_stI (c := 7) (by omega)]
      exact f3
theorem op37 {σ : LH} : ∀ (m n y : Nat) (w : Wd), y + m = 8 → m < n → ∃ w' : Wd, (∀ c, c = 1 ∨ c = 2 ∨ c = 3 ∨ c = 4 → (∀ j, j < y → w' c j = w c j) ∧ ∀ j, y ≤ j → j < 8 → w' c j = if c = 3 then σ.1 11 j else if c = 4 then 0 else -1) ∧ (∀ c, c = 0 ∨ 5 ≤ c → w' c = w c) ∧ s_Hall_open_37 39 4 n (nI y) (sH σ 39 w) = s_Hall_open_99 39 4 FUEL 0 (sH σ 39 (u2 (u2 (u2 w' 0 7 0) 0 8 0) 0 10 (-1))) := by
  intro m
  induction m with
  | zero =>
    intro n y w hy hn
    obtain ⟨n, rfl⟩ : ∃ q, n = q + 1 := ⟨n - 1, by omega⟩
    refine ⟨w, fun c _ => ⟨fun _ _ => rfl, fun j h1 h2 => by omega⟩, fun _ _ => rfl, ?_⟩
    rw [s_Hall_open_37]
    unfold s_Hall_open_37_b
    rw [if_pos (show (8 : Int32) ≤ nI y from nI_le (a := 8) (by omega) (by omega))]
    simp only [xl]
    rw [sH_stI0, sH_stI0, sH_stI0]
  | succ m ih =>
    intro n y w hy hn
    obtain ⟨n, rfl⟩ : ∃ q, n = q + 1 := ⟨n - 1, by omega⟩
    obtain ⟨w', f1, f2, f3⟩ := ih n (y + 1) (u2 (u2 (u2 (u2 w 2 y (-1)) 3 y (σ.1 11 y)) 4 y 0) 1 y (-1)) (by omega) (by omega)
    refine ⟨w', fun c hc => ⟨fun j hj => ?_, fun j h1 h2 => ?_⟩, fun c h1 => ?_, ?_⟩
    · rw [(f1 c hc).1 j (by omega), u2_e, if_neg (by omega), u2_e, if_neg (by omega), u2_e, if_neg (by omega), u2_e, if_neg (by omega)]
    · by_cases q : j = y
      · rw [q, (f1 c hc).1 y (by omega), u2_e, u2_e, u2_e, u2_e]
        rcases hc with rfl | rfl | rfl | rfl
        · rw [if_pos ⟨rfl, rfl⟩, if_neg (by omega), if_neg (by omega)]
        · rw [if_neg (by omega), if_neg (by omega), if_neg (by omega), if_pos ⟨rfl, rfl⟩, if_neg (by omega), if_neg (by omega)]
        · rw [if_neg (by omega), if_neg (by omega), if_pos ⟨rfl, rfl⟩, if_pos rfl]
        · rw [if_neg (by omega), if_pos ⟨rfl, rfl⟩, if_neg (by omega), if_pos rfl]
      · exact (f1 c hc).2 j (by omega) h2
    · rw [f2 c h1, u2_c (by omega), u2_c (by omega), u2_c (by omega), u2_c (by omega)]
    · rw [s_Hall_open_37]
      unfold s_Hall_open_37_b
      rw [if_neg (show ¬ (8 : Int32) ≤ nI y from nI_ge (b := 8) (by omega) (by omega))]
      simp only [if_pos (ib_nI (show y < 8 by omega) (show 8 < 2 ^ 31 by omega)), xl, nI_clamp (show y < 2 ^ 31 by omega)]
      rw [nI_1, sH_stI (c := 2) (by omega), show (sH σ 39 (u2 w 2 y (-1))).1 (4 + 7) y = σ.1 11 y by rw [sH_lo (by omega)], sH_stI (c := 3) (by omega), sH_stI (c := 4) (by omega), sH_stI (c := 1) (by omega)]
      exact f3
theorem op99 {σ : LH} (hS : σ.1 4 0 = nI S) (hP : σ.1 4 1 = nI P) (hS8 : S ≤ 8) (hP8 : P ≤ 8) (hb : ∀ p, p < P → σ.1 8 p = nI (b p) ∧ b p ≤ 8) (hd : ∀ p, p < P → b p < S → ∀ q, q < p → b q ≠ b p) : ∀ (m n p : Nat) (w : Wd), p + m = P → m < n → Rw S P w (AAR S b k p) → w 0 8 = 0 → w 0 10 = -1 → ∃ w', s_Hall_open_99 39 4 n (nI p) (sH σ 39 w) = some (sH σ 39 w') ∧ Rw S P w' (AAR S b k P) ∧ w' 0 8 = 0 ∧ w' 0 10 = -1 := by
  intro m
  induction m with
  | zero =>
    intro n p w hp hn hR h8 h10
    obtain ⟨n, rfl⟩ : ∃ q, n = q + 1 := ⟨n - 1, by omega⟩
    have : p = P := by omega
    subst this
    refine ⟨w, ?_, hR, h8, h10⟩
    rw [s_Hall_open_99]
    unfold s_Hall_open_99_b s_Hall_open_143
    rw [sH_lo (by omega), hP, if_pos (nI_le (by omega) (by omega))]
  | succ m ih =>
    intro n p w hp hn hR h8 h10
    obtain ⟨n, rfl⟩ : ∃ q, n = q + 1 := ⟨n - 1, by omega⟩
    obtain ⟨b1, b2⟩ := hb p (by omega)
    rw [s_Hall_open_99]
    unfold s_Hall_open_99_b s_Hall_open_137
    rw [sH_lo (b := 4) (by omega), hP, if_neg (nI_ge (by omega) (by omega)), if_neg (show ¬ (8 : Int32) ≤ nI p from nI_ge (b := 8) (by omega) (by omega)), if_pos (ib_nI (show p < 8 by omega) (by omega)), if_pos (ib_nI (show p < 8 by omega) (by omega)), nI_clamp (show p < 2 ^ 31 by omega), hS, show (sH σ 39 w).1 (4 + 4) p = nI (b p) by rw [sH_lo (by omega)]; exact b1]
    simp only [xl]
    rw [nI_1]
    by_cases q : S ≤ b p
    · rw [if_pos (nI_le q (by omega))]
      have e : AAR S b k (p + 1) = AAR S b k p := funext fun j => AAR_n (fun z => by omega)
      exact ih n (p + 1) w (by omega) (by omega) (by rw [e]; exact hR) h8 h10
    · rw [if_neg (nI_ge (by omega) (by omega)), h_put (by omega)]
      simp only [xb1]
      refine ih n (p + 1) (wPut p (nI (b p)) w) (by omega) (by omega) ?_ (by rw [wPut_0i (by omega)]; exact h8) wPut_0x
      have bS : b p < S := by omega
      refine hR.put hS8 hP8 (show p < P by omega) ?_ (Or.inr (Or.inr ⟨b p, bS, rfl⟩)) (fun s hs hy => ?_) ?_ (AAR_1 (by omega)) (fun j hj h1 h2 => ?_)
      · rw [AAR_0 (by omega), if_neg (by omega)]
        exact Or.inl rfl
      · have hs2 : s = b p := (nI_ij (by omega) (by omega) hy).symm
        subst hs2
        rcases hR.c5 (b p) bS with ⟨x, -⟩ | ⟨q, hq, x, y, -⟩
        · exact x
        · exfalso
          have y' : AAR S b k p (4 * q) = nI (b p) := y
          rw [AAR_0 (by omega)] at y'
          by_cases z : q < p ∧ b q < S
          · rw [if_pos z] at y'
            exact hd p (by omega) bS q z.1 (nI_ij (by omega) (by omega) y')
          · rw [if_neg z] at y'
            exact nI_m1 (by omega) y'.symm
      · rw [AAR_0 (by omega), if_pos ⟨by omega, bS⟩]
      · exact AAR_n (fun z => by omega)
theorem h_open {σ : LH} (hS : σ.1 4 0 = nI S) (hP : σ.1 4 1 = nI P) (hS8 : S ≤ 8) (hP8 : P ≤ 8) (hb : ∀ p, p < P → σ.1 8 p = nI (b p) ∧ b p ≤ 8) (hk : ∀ p, p < P → σ.1 11 p = nI (k p)) (hd : ∀ p, p < P → b p < S → ∀ q, q < p → b q ≠ b p) : ∃ w', s_Hall_open 39 4 σ = some (sH σ 39 w') ∧ Rw S P w' (AAR S b k P) ∧ w' 0 8 = 0 ∧ w' 0 10 = -1 := by
  obtain ⟨w1, a1, a2, a3⟩ := op2 (σ := σ) 8 FUEL 0 (gH σ 39) (by omega) (by unfold FUEL; omega)
  obtain ⟨w2, b1, b2, b3⟩ := op37 (σ := σ) 8 FUEL 0 w1 (by omega) (by unfold FUEL; omega)
  rw [sH_gH, nI_0] at a3
  rw [nI_0] at b3
  have hR : Rw S P (u2 (u2 (u2 w2 0 7 0) 0 8 0) 0 10 (-1)) (AAR S b k 0) := by
    have c : ∀ c, c ≠ 0 → (u2 (u2 (u2 w2 0 7 0) 0 8 0) 0 10 (-1)) c = w2 c := fun c h => by rw [u2_c h, u2_c h, u2_c h]
    refine ⟨fun p hp => ?_, fun p hp => ?_, fun p hp => ?_, fun p hp => ?_, fun s hs => ?_, fun s hs => ?_, fun s hs => ?_, ?_⟩
    · rw [c 1 (by omega), (b1 1 (by omega)).2 p (by omega) (by omega), AAR_0 (by omega), if_neg (by omega), if_neg (by omega), if_neg (by omega)]
    · rw [c 2 (by omega), (b1 2 (by omega)).2 p (by omega) (by omega), AAR_1 (by omega), if_neg (by omega), if_neg (by omega)]
    · rw [c 3 (by omega), (b1 3 (by omega)).2 p (by omega) (by omega), AAR_2 (by omega), if_pos rfl]
      exact hk p hp
    · rw [c 4 (by omega), (b1 4 (by omega)).2 p (by omega) (by omega), AAR_3 (by omega), if_neg (by omega), if_pos rfl]
    · rw [c 5 (by omega), b2 5 (by omega), (a1 5 (by omega)).2 s (by omega) (by omega)]
      refine Or.inl ⟨rfl, fun p hp => ?_⟩
      show AAR S b k 0 (4 * p) ≠ nI s
      rw [AAR_0 (by omega), if_neg (by omega)]
      exact fun z => nI_m1 (by omega) z.symm
    · rw [c 6 (by omega), b2 6 (by omega), (a1 6 (by omega)).2 s (by omega) (by omega), AAR_s (by omega) (by omega)]
    · rw [c 7 (by omega), b2 7 (by omega), (a1 7 (by omega)).2 s (by omega) (by omega), AAR_s (by omega) (by omega)]
    · rw [u2_i (by omega), u2_i (by omega), u2_s, AAR_m (by omega)]
  obtain ⟨w', c1, c2⟩ := op99 (k := k) hS hP hS8 hP8 hb hd P FUEL 0 _ (by omega) (by unfold FUEL; omega) hR (by rw [u2_i (by omega), u2_s]) u2_s
  rw [nI_0] at c1
  exact ⟨w', a3.trans (b3.trans c1), c2⟩
end
