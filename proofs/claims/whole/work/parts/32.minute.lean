/-! the class: goings, comings, moves, joy -/
abbrev hbit (hap : Int32) (g : Nat) : Prop := ¬ ((hap >>> (nI g &&& 31)) &&& 1) = 0
def wGo1 (p : Nat) (d : Int32) (w : Wd) : Wd := if w 1 p = -2 then w else wUp p d 1 w
/-- (2): the goings told -/
def wOutF (lv ls : Nat → Int32) (go : Nat → Nat) (hap : Int32) (g : Nat) (w : Wd) : Wd := if lv g = w 0 7 ∧ hbit hap g then wGo1 (go g) (ls g) w else w
/-- one more -/
def wMoreF (who : Option Nat) (lv ls : Int32) (w : Wd) : Wd := match who with
  | none => w
  | some p => if lv = w 0 7 then wGo1 p ls w else w
def oI (o : Option Nat) : Int32 := match o with
  | none => -1
  | some k => nI k
theorem e_goes {σ : LH} {h p P : Nat} {w : Wd} {d : Int32} (h39 : 39 ≤ h) (hP : σ.1 4 1 = nI P) (hP8 : P ≤ 8) (hp : p < P) {β : Type} {K : LH → Option β} {K2 : LH → Option β} {r : Option β} (h1 : K (sH σ h (wGo1 p d w)) = r) (hK : ∀ s, K2 s = K s) : (xb2 (s_Evening_isHere h (nI p) (sH σ h w)) fun r5 σ6 => if r5 = 0 then K2 σ6 else xb1 (s_Hall_getUp h (nI p) d 1 σ6) fun σ9 => K σ9) = r := by
  rw [e_isHere h39 hP hP8 hp]
  simp only [xb2]
  unfold wGo1 at h1
  by_cases q : w 1 p = -2
  · rw [if_pos q] at h1 ⊢
    rw [if_pos rfl, hK]
    exact h1
  · rw [if_neg q] at h1 ⊢
    rw [if_neg (show ¬ (1 : Int32) = 0 by decide), h_getUp (by omega)]
    exact h1
theorem e_sendOut_loop {σ : LH} {h P n0 : Nat} {go : Nat → Nat} {who : Option Nat} (h39 : 39 ≤ h) (hP : σ.1 4 1 = nI P) (hP8 : P ≤ 8) (hG : σ.1 4 2 = nI n0) (hG10 : n0 ≤ 10) (hgo : ∀ g, g < n0 → σ.1 12 g = nI (go g) ∧ go g < P) (hwho : σ.1 38 3 = oI who) (hw2 : ∀ p, who = some p → p < P) : ∀ (m n k : Nat) (w : Wd), k + m = n0 → m < n → s_Evening_sendOut_2 h n (nI k) (sH σ h w) = some (sH σ h (wMoreF who (σ.1 38 4) (σ.1 38 5) (itr (wOutF (σ.1 13) (σ.1 14) go (σ.1 38 2)) m k w))) := by
  intro m
  induction m with
  | zero =>
    intro n k w hk hn
    obtain ⟨n, rfl⟩ : ∃ q, n = q + 1 := ⟨n - 1, by omega⟩
    simp only [s_Evening_sendOut_2, s_Evening_sendOut_2_b]
    rw [sH_lo (b := 4) (by omega), hG, if_pos (nI_le (by omega) (by omega)), sH_lo (b := 38) (by omega), hwho, sH_in0]
    show _ = some (sH σ h (wMoreF who (σ.1 38 4) (σ.1 38 5) w))
    cases who with
    | none =>
      rw [if_pos (show oI none = -1 from rfl)]
      unfold s_Evening_sendOut_119 s_Evening_sendOut_120
      rw [if_pos rfl]
      rfl
    | some p =>
      have hp := hw2 p rfl
      rw [if_neg (show ¬ oI (some p) = -1 from nI_m1 (by omega))]
      unfold wMoreF
      by_cases q : σ.1 38 4 = w 0 7
      · rw [if_pos q]
        unfold s_Evening_sendOut_120
        rw [if_neg (show ¬ (1 : Int32) = 0 by decide), sH_lo (b := 38) (by omega), hwho]
        have e38 : (sH σ h w).1 38 = σ.1 38 := sH_lo (by omega)
        rw [show oI (some p) = nI p from rfl, e_isHere h39 hP hP8 hp]
        simp only [xb2, if_pos q]
        unfold wGo1
        by_cases q2 : w 1 p = -2
        · rw [if_pos q2, if_pos rfl, if_pos q2]
          rfl
        · rw [if_neg q2, if_neg (show ¬ (1 : Int32) = 0 by decide), if_neg q2, e38, hwho]
          show xb1 (s_Hall_getUp h (nI p) (σ.1 38 5) 1 (sH σ h w)) _ = _
          rw [h_getUp (by omega)]
          rfl
      · rw [if_neg q]
        unfold s_Evening_sendOut_119 s_Evening_sendOut_120
        rw [if_pos rfl]
        simp only [if_neg q]
        rfl
  | succ m ih =>
    intro n k w hk hn
    obtain ⟨n, rfl⟩ : ∃ q, n = q + 1 := ⟨n - 1, by omega⟩
    have i8 : ib (nI k) 10 := ib_nI (by omega) (by omega)
    have cl : (nI k).toNatClampNeg = k := nI_clamp (by omega)
    obtain ⟨g1, g2⟩ := hgo k (by omega)
    have go1 : ∀ w' : Wd, s_Evening_sendOut_90 h (s_Evening_sendOut_2 h n) (nI k) (sH σ h w') = some (sH σ h (wMoreF who (σ.1 38 4) (σ.1 38 5) (itr (wOutF (σ.1 13) (σ.1 14) go (σ.1 38 2)) m (k + 1) w'))) := by
      intro w'
      simp only [s_Evening_sendOut_90, xl, nI_1]
      exact ih n (k + 1) w' (by omega) (by omega)
    have no : s_Evening_sendOut_44 h (s_Evening_sendOut_2 h n) (nI k) (sH σ h w) = some (sH σ h (wMoreF who (σ.1 38 4) (σ.1 38 5) (itr (wOutF (σ.1 13) (σ.1 14) go (σ.1 38 2)) m (k + 1) w))) := by
      unfold s_Evening_sendOut_44 s_Evening_sendOut_45
      rw [if_pos rfl]
      exact go1 w
    simp only [s_Evening_sendOut_2, s_Evening_sendOut_2_b, if_pos i8, cl]
    rw [sH_lo (b := 4) (by omega), hG, if_neg (nI_ge (by omega) (by omega)), sH_lo (b := 13) (by omega), sH_lo (b := 38) (by omega), sH_in0]
    show _ = some (sH σ h (wMoreF who (σ.1 38 4) (σ.1 38 5) (itr (wOutF (σ.1 13) (σ.1 14) go (σ.1 38 2)) m (k + 1) (wOutF (σ.1 13) (σ.1 14) go (σ.1 38 2) k w))))
    by_cases q1 : σ.1 13 k = w 0 7
    · rw [if_pos q1]
      by_cases q2 : ((σ.1 38 2 >>> (nI k &&& 31)) &&& 1) = 0
      · rw [if_pos q2, no, show wOutF (σ.1 13) (σ.1 14) go (σ.1 38 2) k w = w from if_neg (fun q => q.2 q2)]
      · rw [if_neg q2, show wOutF (σ.1 13) (σ.1 14) go (σ.1 38 2) k w = wGo1 (go k) (σ.1 14 k) w from if_pos ⟨q1, q2⟩]
        unfold s_Evening_sendOut_45
        rw [if_neg (show ¬ (1 : Int32) = 0 by decide)]
        simp only [if_pos i8, cl]
        rw [sH_lo (b := 12) (by omega), g1, e_isHere h39 hP hP8 g2]
        simp only [xb2]
        unfold wGo1
        by_cases q3 : w 1 (go k) = -2
        · rw [if_pos q3, if_pos rfl, if_pos q3, go1]
        · rw [if_neg q3, if_neg (show ¬ (1 : Int32) = 0 by decide), if_neg q3, sH_lo (b := 12) (by omega), g1, sH_lo (b := 14) (by omega), h_getUp (by omega)]
          exact go1 _
    · rw [if_neg q1, no, show wOutF (σ.1 13) (σ.1 14) go (σ.1 38 2) k w = w from if_neg (fun q => q1 q.1)]
/-- the place that one comes back to -/
def pfR (tb : Nat → Nat → Int32) (p : Nat) : Nat → Nat → Int32 → Int32 → Wd → Int32 × Wd
  | 0, _, b, _, w => (b, w)
  | m + 1, k, b, mo, w => if w 6 k = nI p then (nI k, wRel k w) else if (w 5 k = -1 ∧ w 6 k = -1) ∧ mo < tb p k then pfR tb p m (k + 1) (nI k) (tb p k) w else pfR tb p m (k + 1) b mo w
theorem e_placeFor_loop {σ : LH} {h S r p : Nat} (h39 : 39 ≤ h) (hS : σ.1 4 0 = nI S) (hS8 : S ≤ 8) (hr : r < 100) (hp : p < 8) : ∀ (m n k : Nat) (b mo : Int32) (w : Wd), k + m = S → m < n → s_Evening_placeFor_9 h (nI r) (nI p) n b mo (nI k) (sH σ h w) = some ((pfR (fun p s => σ.1 34 (r * 64 + p * 8 + s)) p m k b mo w).1, sH σ h (pfR (fun p s => σ.1 34 (r * 64 + p * 8 + s)) p m k b mo w).2) := by
  intro m
  induction m with
  | zero =>
    intro n k b mo w hk hn
    obtain ⟨n, rfl⟩ : ∃ q, n = q + 1 := ⟨n - 1, by omega⟩
    simp only [s_Evening_placeFor_9, s_Evening_placeFor_9_b]
    rw [sH_lo (b := 4) (by omega), hS, if_pos (nI_le (by omega) (by omega))]
    rfl
  | succ m ih =>
    intro n k b mo w hk hn
    obtain ⟨n, rfl⟩ : ∃ q, n = q + 1 := ⟨n - 1, by omega⟩
    have i8 : ib (nI k) 8 := ib_nI (by omega) (by omega)
    have cl : (nI k).toNatClampNeg = k := nI_clamp (by omega)
    simp only [s_Evening_placeFor_9, s_Evening_placeFor_9_b, if_pos i8, cl]
    rw [sH_lo (b := 4) (by omega), hS, if_neg (nI_ge (by omega) (by omega)), sH_in (c := 6) (by omega)]
    unfold pfR
    by_cases q1 : w 6 k = nI p
    · rw [if_pos q1, if_pos q1, h_release (by omega)]
      rfl
    · rw [if_neg q1, if_neg q1, l_at hr hp (by omega), sH_lo (b := 34) (by omega)]
      simp only [xb2]
      rw [h_isFree (by omega)]
      simp only
      by_cases q2 : w 5 k = -1 ∧ w 6 k = -1
      · rw [if_pos q2, if_neg (show ¬ (1 : Int32) = 0 by decide)]
        by_cases q3 : σ.1 34 (r * 64 + p * 8 + k) ≤ mo
        · rw [if_pos q3, if_neg (fun q => Int32.not_le.mpr q.2 q3)]
          simp only [s_Evening_placeFor_78, xl, nI_1]
          exact ih n (k + 1) b mo w (by omega) (by omega)
        · rw [if_neg q3, if_pos ⟨q2, Int32.not_le.mp q3⟩]
          simp only [s_Evening_placeFor_78, xl, nI_1]
          exact ih n (k + 1) _ _ w (by omega) (by omega)
      · rw [if_neg q2, if_pos rfl, if_neg (fun q => q2 q.1)]
        simp only [s_Evening_placeFor_78, xl, nI_1]
        exact ih n (k + 1) b mo w (by omega) (by omega)
def bt (q : Nat → Int32) (f : Option Nat) (k : Nat) : Bool := match f with
  | none => true
  | some j => decide (q j < q k)
/-- who comes back first -/
def pkR (q : Nat → Int32) (w : Wd) : Nat → Nat → Option Nat → Option Nat
  | 0, _, f => f
  | m + 1, k, f => pkR q w m (k + 1) (if (w 1 k = -2 ∧ w 2 k ≤ w 0 7) ∧ bt q f k = true then some k else f)
/-- (3) -/
def tbR (tb : Nat → Nat → Int32) (q : Nat → Int32) (S P : Nat) : Nat → Wd → Wd
  | 0, w => w
  | n + 1, w => match pkR q w P 0 none with
    | none => w
    | some p => tbR tb q S P n (wPut p (pfR tb p S 0 (-1) 0 w).1 (pfR tb p S 0 (-1) 0 w).2)
theorem e_takeBack_in {σ : LH} {h P r : Nat} {rec2 : Int32 → LH → Option LH} (h39 : 39 ≤ h) (hP : σ.1 4 1 = nI P) (hP8 : P ≤ 8) : ∀ (m n k : Nat) (y3 : Int32) (f : Option Nat) (w : Wd), k + m = P → m < n → (∀ j, f = some j → j < k) → s_Evening_takeBack_14 h (nI r) rec2 n y3 (oI f) (nI k) (sH σ h w) = (match pkR (σ.1 9) w m k f with
    | none => some (sH σ h w)
    | some p => xb2 (s_Evening_placeFor h (nI r) (nI p) (sH σ h w)) fun r5 σ6 => xb1 (s_Hall_put h (nI p) r5 σ6) fun σ8 => rec2 (y3 + 1) σ8) := by
  intro m
  induction m with
  | zero =>
    intro n k y3 f w hk hn hf
    obtain ⟨n, rfl⟩ : ∃ q, n = q + 1 := ⟨n - 1, by omega⟩
    simp only [s_Evening_takeBack_14, s_Evening_takeBack_14_b]
    rw [sH_lo (b := 4) (by omega), hP, if_pos (nI_le (by omega) (by omega))]
    unfold pkR
    cases f with
    | none => rw [if_pos (show oI none = -1 from rfl)]
    | some p =>
      have := hf p rfl
      rw [if_neg (show ¬ oI (some p) = -1 from nI_m1 (by omega))]
      simp only [xl]
      rfl
  | succ m ih =>
    intro n k y3 f w hk hn hf
    obtain ⟨n, rfl⟩ : ∃ q, n = q + 1 := ⟨n - 1, by omega⟩
    have i8 : ib (nI k) 8 := ib_nI (by omega) (by omega)
    have cl : (nI k).toNatClampNeg = k := nI_clamp (by omega)
    have skip : ∀ f2 : Option Nat, (∀ j, f2 = some j → j < k + 1) → s_Evening_takeBack_97 h (nI r) (s_Evening_takeBack_14 h (nI r) rec2 n) y3 (oI f2) (nI k) (sH σ h w) = (match pkR (σ.1 9) w m (k + 1) f2 with
        | none => some (sH σ h w)
        | some p => xb2 (s_Evening_placeFor h (nI r) (nI p) (sH σ h w)) fun r5 σ6 => xb1 (s_Hall_put h (nI p) r5 σ6) fun σ8 => rec2 (y3 + 1) σ8) := by
      intro f2 hf2
      simp only [s_Evening_takeBack_97, xl, nI_1]
      exact ih n (k + 1) y3 f2 w (by omega) (by omega) hf2
    have no := skip f (fun j hj => by have := hf j hj; omega)
    have yes : s_Evening_takeBack_93 h (nI r) (s_Evening_takeBack_14 h (nI r) rec2 n) y3 (nI k) (sH σ h w) = _ := skip (some k) (fun j hj => by cases hj; omega)
    simp only [s_Evening_takeBack_14, s_Evening_takeBack_14_b, if_pos i8, cl]
    rw [sH_lo (b := 4) (by omega), hP, if_neg (nI_ge (by omega) (by omega)), sH_in (c := 1) (by omega), sH_in0, sH_in (c := 2) (by omega)]
    show _ = (match pkR (σ.1 9) w m (k + 1) (if (w 1 k = -2 ∧ w 2 k ≤ w 0 7) ∧ bt (σ.1 9) f k = true then some k else f) with
        | none => some (sH σ h w)
        | some p => xb2 (s_Evening_placeFor h (nI r) (nI p) (sH σ h w)) fun r5 σ6 => xb1 (s_Hall_put h (nI p) r5 σ6) fun σ8 => rec2 (y3 + 1) σ8)
    have no56 : s_Evening_takeBack_56 h (nI r) (s_Evening_takeBack_14 h (nI r) rec2 n) y3 (oI f) (nI k) (sH σ h w) = _ := (show s_Evening_takeBack_56 h (nI r) (s_Evening_takeBack_14 h (nI r) rec2 n) y3 (oI f) (nI k) (sH σ h w) = s_Evening_takeBack_97 h (nI r) (s_Evening_takeBack_14 h (nI r) rec2 n) y3 (oI f) (nI k) (sH σ h w) by
      unfold s_Evening_takeBack_56 s_Evening_takeBack_57
      rw [if_pos rfl]).trans no
    by_cases q1 : w 1 k = -2
    · rw [if_pos q1]
      by_cases q2 : w 0 7 < w 2 k
      · rw [if_pos q2, no56, if_neg (show ¬ ((w 1 k = -2 ∧ w 2 k ≤ w 0 7) ∧ bt (σ.1 9) f k = true) from fun q => Int32.not_le.mpr q2 q.1.2)]
      · rw [if_neg q2]
        unfold s_Evening_takeBack_57
        rw [if_neg (show ¬ (1 : Int32) = 0 by decide)]
        cases f with
        | none =>
          rw [if_pos (show oI none = -1 from rfl), yes, if_pos ⟨⟨q1, Int32.not_lt.mp q2⟩, rfl⟩]
        | some j =>
          have hj := hf j rfl
          rw [if_neg (show ¬ oI (some j) = -1 from nI_m1 (by omega)), show oI (some j) = nI j from rfl]
          rw [if_pos i8, if_pos (ib_nI (show j < 8 by omega) (by omega)), cl, nI_clamp (show j < 2 ^ 31 by omega), sH_lo (b := 9) (by omega)]
          by_cases q3 : σ.1 9 k ≤ σ.1 9 j
          · rw [if_pos q3, if_neg (show ¬ ((w 1 k = -2 ∧ w 2 k ≤ w 0 7) ∧ bt (σ.1 9) (some j) k = true) from fun q => Int32.not_le.mpr (of_decide_eq_true q.2) q3)]
            exact no
          · rw [if_neg q3, yes, if_pos ⟨⟨q1, Int32.not_lt.mp q2⟩, decide_eq_true (Int32.not_le.mp q3)⟩]
    · rw [if_neg q1, no56, if_neg (show ¬ ((w 1 k = -2 ∧ w 2 k ≤ w 0 7) ∧ bt (σ.1 9) f k = true) from fun q => q1 q.1.1)]
