/-! the class: who comes back, who moves, joy, a minute -/
theorem pkR_in {q : Nat → Int32} {w : Wd} : ∀ (m k : Nat) (f : Option Nat), (∀ j, f = some j → j < k) → ∀ p, pkR q w m k f = some p → p < k + m := by
  intro m
  induction m with
  | zero => intro k f hf p hp; unfold pkR at hp; have := hf p hp; omega
  | succ m ih =>
    intro k f hf p hp
    unfold pkR at hp
    have := ih (k + 1) _ (fun j hj => by
      split at hj
      · cases hj; omega
      · have := hf j hj; omega) p hp
    omega
theorem e_takeBack_loop {σ : LH} {h S P r : Nat} (h39 : 39 ≤ h) (hS : σ.1 4 0 = nI S) (hS8 : S ≤ 8) (hP : σ.1 4 1 = nI P) (hP8 : P ≤ 8) (hr : r < 100) : ∀ (m n k : Nat) (w : Wd), k + m = 8 → m < n → s_Evening_takeBack_2 h (nI r) n (nI k) (sH σ h w) = some (sH σ h (tbR (fun p s => σ.1 34 (r * 64 + p * 8 + s)) (σ.1 9) S P m w)) := by
  intro m
  induction m with
  | zero =>
    intro n k w hk hn
    obtain ⟨n, rfl⟩ : ∃ q, n = q + 1 := ⟨n - 1, by omega⟩
    simp only [s_Evening_takeBack_2, s_Evening_takeBack_2_b]
    rw [if_pos (show (8 : Int32) ≤ nI k from nI_le (a := 8) (by omega) (by omega))]
    rfl
  | succ m ih =>
    intro n k w hk hn
    obtain ⟨n, rfl⟩ : ∃ q, n = q + 1 := ⟨n - 1, by omega⟩
    simp only [s_Evening_takeBack_2, s_Evening_takeBack_2_b]
    rw [if_neg (show ¬ (8 : Int32) ≤ nI k from nI_ge (b := 8) (by omega) (by omega))]
    have hin := e_takeBack_in (rec2 := s_Evening_takeBack_2 h (nI r) n) (r := r) h39 hP hP8 P FUEL 0 (nI k) none w (by omega) (by unfold FUEL; omega) (fun j hj => by cases hj)
    rw [show (oI none : Int32) = -1 from rfl, nI_0] at hin
    rw [hin]
    unfold tbR
    cases hpk : pkR (σ.1 9) w P 0 none with
    | none => rfl
    | some p =>
      have hp : p < P := by have := pkR_in P 0 none (fun j hj => by cases hj) p hpk; omega
      simp only
      have hpf := e_placeFor_loop h39 hS hS8 hr (show p < 8 by omega) S FUEL 0 (-1) 0 w (by omega) (by unfold FUEL; omega)
      rw [nI_0] at hpf
      unfold s_Evening_placeFor
      rw [hpf]
      simp only [xb2]
      rw [h_put (by omega)]
      simp only [xb1, nI_1]
      exact ih n (k + 1) _ (by omega) (by omega)
theorem e_takeBack {σ : LH} {h S P r : Nat} (h39 : 39 ≤ h) (hS : σ.1 4 0 = nI S) (hS8 : S ≤ 8) (hP : σ.1 4 1 = nI P) (hP8 : P ≤ 8) (hr : r < 100) (w : Wd) : s_Evening_takeBack h (nI r) (sH σ h w) = some (sH σ h (tbR (fun p s => σ.1 34 (r * 64 + p * 8 + s)) (σ.1 9) S P 8 w)) := by
  have := e_takeBack_loop h39 hS hS8 hP hP8 hr 8 FUEL 0 w (by omega) (by unfold FUEL; omega)
  rw [nI_0] at this
  exact this
/-- how far a seat is -/
def wayF (st : Nat → Int32) (s : Nat) (x : Int32) : Int32 := if x < 0 then 99 else if 0 ≤ st s - st x.toNatClampNeg then st s - st x.toNatClampNeg else -(st s - st x.toNatClampNeg)
theorem e_wayTo {σ : LH} {s : Nat} {x : Int32} (hs : s < 8) (hx : plc 8 x) : s_Evening_wayTo (nI s) x σ = some (wayF (σ.1 7) s x, σ) := by
  unfold s_Evening_wayTo wayF
  by_cases q : x < 0
  · rw [if_pos q, if_pos q]
    rfl
  · rw [if_neg q, if_neg q]
    rcases hx with rfl | rfl | ⟨j, hj, rfl⟩
    · exact absurd (by decide) q
    · exact absurd (by decide) q
    · rw [if_pos (show nI j < (8 : Int32) from nI_lt (b := 8) hj (by omega)), if_pos (ib_nI hs (by omega)), if_pos (ib_nI hj (by omega)), nI_clamp (by omega), nI_clamp (by omega)]
      simp only [xl]
      split <;> rfl
/-- who takes a seat -/
def tkb (q : Nat → Int32) (t : Option Nat) (way far : Int32) (k : Nat) : Bool := match t with
  | none => true
  | some j => decide (q j < q k ∨ (q k = q j ∧ far < way))
def tkR (tb : Nat → Nat → Int32) (q stp st : Nat → Int32) (s : Nat) (w : Wd) : Nat → Nat → Option Nat → Int32 → Option Nat
  | 0, _, t, _ => t
  | m + 1, k, t, way => if w 1 k = -2 ∨ ¬ stp k ≤ tb k s - lkx tb k (w 1 k) then tkR tb q stp st s w m (k + 1) t way
    else if tkb q t way (wayF st s (w 1 k)) k = true then tkR tb q stp st s w m (k + 1) (some k) (wayF st s (w 1 k)) else tkR tb q stp st s w m (k + 1) t way
theorem e_takerOf_loop {σ : LH} {h P r s : Nat} {w : Wd} (h39 : 39 ≤ h) (hP : σ.1 4 1 = nI P) (hP8 : P ≤ 8) (hr : r < 100) (hs : s < 8) (hw : ∀ p, p < P → plc 8 (w 1 p)) : ∀ (m n k : Nat) (t : Option Nat) (way : Int32), k + m = P → m < n → (∀ j, t = some j → j < k) → s_Evening_takerOf_9 h (nI r) (nI s) n (oI t) way (nI k) (sH σ h w) = some (oI (tkR (fun p s => σ.1 34 (r * 64 + p * 8 + s)) (σ.1 9) (σ.1 10) (σ.1 7) s w m k t way), sH σ h w) := by
  intro m
  induction m with
  | zero =>
    intro n k t way hk hn ht
    obtain ⟨n, rfl⟩ : ∃ q, n = q + 1 := ⟨n - 1, by omega⟩
    simp only [s_Evening_takerOf_9, s_Evening_takerOf_9_b]
    rw [sH_lo (b := 4) (by omega), hP, if_pos (nI_le (by omega) (by omega))]
    rfl
  | succ m ih =>
    intro n k t way hk hn ht
    obtain ⟨n, rfl⟩ : ∃ q, n = q + 1 := ⟨n - 1, by omega⟩
    have i8 : ib (nI k) 8 := ib_nI (by omega) (by omega)
    have cl : (nI k).toNatClampNeg = k := nI_clamp (by omega)
    have skip : ∀ (t2 : Option Nat) (way2 : Int32), (∀ j, t2 = some j → j < k + 1) → s_Evening_takerOf_171 h (nI r) (nI s) (s_Evening_takerOf_9 h (nI r) (nI s) n) (oI t2) way2 (nI k) (sH σ h w) = some (oI (tkR (fun p s => σ.1 34 (r * 64 + p * 8 + s)) (σ.1 9) (σ.1 10) (σ.1 7) s w m (k + 1) t2 way2), sH σ h w) := by
      intro t2 way2 h2
      simp only [s_Evening_takerOf_171, xl, nI_1]
      exact ih n (k + 1) t2 way2 (by omega) (by omega) h2
    have no := skip t way (fun j hj => by have := ht j hj; omega)
    simp only [s_Evening_takerOf_9, s_Evening_takerOf_9_b, if_pos i8, cl, xl]
    rw [sH_lo (b := 4) (by omega), hP, if_neg (nI_ge (by omega) (by omega)), sH_in (c := 1) (by omega)]
    unfold tkR
    by_cases q1 : w 1 k = -2
    · rw [if_pos q1, no, if_pos (Or.inl q1)]
    · rw [if_neg q1, l_at hr (by omega) hs]
      simp only [xb2]
      rw [l_atx hr (by omega) (hw k (by omega))]
      simp only
      rw [sH_lo (b := 34) (by omega), sH_lo (b := 10) (by omega)]
      by_cases q2 : σ.1 10 k ≤ σ.1 34 (r * 64 + k * 8 + s) - lkx (fun p s => σ.1 34 (r * 64 + p * 8 + s)) k (w 1 k)
      · rw [if_pos q2, e_wayTo hs (hw k (by omega)), if_neg (show ¬ (w 1 k = -2 ∨ ¬ σ.1 10 k ≤ σ.1 34 (r * 64 + k * 8 + s) - lkx (fun p s => σ.1 34 (r * 64 + p * 8 + s)) k (w 1 k)) from fun q => q.elim q1 (fun z => z q2))]
        simp only
        rw [sH_lo (b := 7) (by omega), sH_lo (b := 9) (by omega)]
        have yes : s_Evening_takerOf_148 h (nI r) (nI s) (s_Evening_takerOf_9 h (nI r) (nI s) n) (oI t) way (nI k) (wayF (σ.1 7) s (w 1 k)) (sH σ h w) = some (oI (tkR (fun p s => σ.1 34 (r * 64 + p * 8 + s)) (σ.1 9) (σ.1 10) (σ.1 7) s w m (k + 1) (some k) (wayF (σ.1 7) s (w 1 k))), sH σ h w) := by
          unfold s_Evening_takerOf_148 s_Evening_takerOf_153
          rw [if_neg (show ¬ (1 : Int32) = 0 by decide)]
          exact skip (some k) _ (fun j hj => by cases hj; omega)
        have nono : s_Evening_takerOf_152 h (nI r) (nI s) (s_Evening_takerOf_9 h (nI r) (nI s) n) (oI t) way (nI k) (wayF (σ.1 7) s (w 1 k)) (sH σ h w) = some (oI (tkR (fun p s => σ.1 34 (r * 64 + p * 8 + s)) (σ.1 9) (σ.1 10) (σ.1 7) s w m (k + 1) t way), sH σ h w) := by
          unfold s_Evening_takerOf_152 s_Evening_takerOf_153
          rw [if_pos rfl]
          exact no
        cases t with
        | none =>
          rw [if_pos (show oI none = -1 from rfl), yes, if_pos (show tkb (σ.1 9) none way (wayF (σ.1 7) s (w 1 k)) k = true from rfl)]
        | some j =>
          have hj := ht j rfl
          have clj : Int32.toNatClampNeg (oI (some j)) = j := nI_clamp (by omega)
          have i8j : ib (oI (some j)) 8 := ib_nI (show j < 8 by omega) (by omega)
          rw [if_neg (show ¬ oI (some j) = -1 from nI_m1 (by omega))]
          simp only [if_pos i8j, clj]
          by_cases q3 : σ.1 9 j < σ.1 9 k
          · rw [if_pos q3, yes, if_pos (show tkb (σ.1 9) (some j) way (wayF (σ.1 7) s (w 1 k)) k = true from decide_eq_true (Or.inl q3))]
          · rw [if_neg q3]
            by_cases q4 : σ.1 9 k = σ.1 9 j
            · rw [if_pos q4]
              by_cases q5 : way ≤ wayF (σ.1 7) s (w 1 k)
              · rw [if_pos q5, nono, if_neg (show ¬ tkb (σ.1 9) (some j) way (wayF (σ.1 7) s (w 1 k)) k = true from fun z => (of_decide_eq_true z).elim q3 (fun y => Int32.not_le.mpr y.2 q5))]
              · rw [if_neg q5, yes, if_pos (show tkb (σ.1 9) (some j) way (wayF (σ.1 7) s (w 1 k)) k = true from decide_eq_true (Or.inr ⟨q4, Int32.not_le.mp q5⟩))]
            · rw [if_neg q4, nono, if_neg (show ¬ tkb (σ.1 9) (some j) way (wayF (σ.1 7) s (w 1 k)) k = true from fun z => (of_decide_eq_true z).elim q3 (fun y => q4 y.1))]
      · rw [if_neg q2, no, if_pos (Or.inr q2)]
theorem e_takerOf {σ : LH} {h P r s : Nat} {w : Wd} (h39 : 39 ≤ h) (hP : σ.1 4 1 = nI P) (hP8 : P ≤ 8) (hr : r < 100) (hs : s < 8) (hw : ∀ p, p < P → plc 8 (w 1 p)) : s_Evening_takerOf h (nI r) (nI s) (sH σ h w) = some (oI (tkR (fun p s => σ.1 34 (r * 64 + p * 8 + s)) (σ.1 9) (σ.1 10) (σ.1 7) s w P 0 none 0), sH σ h w) := by
  have := e_takerOf_loop h39 hP hP8 hr hs hw P FUEL 0 none 0 (by omega) (by unfold FUEL; omega) (fun j hj => by cases hj)
  rw [nI_0] at this
  exact this
/-- the seat that is taken next, and by whom -/
def mvb (wo : Nat → Int32) (s : Option Nat) (k : Nat) : Bool := match s with
  | none => true
  | some j => decide (wo j < wo k)
def mvR (tk : Nat → Option Nat) (wo : Nat → Int32) (w : Wd) : Nat → Nat → Option Nat → Option Nat → Option Nat × Option Nat
  | 0, _, s, t => (s, t)
  | m + 1, k, s, t => if (w 5 k = -1 ∧ w 6 k = -1) ∧ mvb wo s k = true then match tk k with
      | none => mvR tk wo w m (k + 1) s t
      | some j => mvR tk wo w m (k + 1) (some k) (some j)
    else mvR tk wo w m (k + 1) s t
theorem tkR_in {tb : Nat → Nat → Int32} {q stp st : Nat → Int32} {s : Nat} {w : Wd} : ∀ (m k : Nat) (t : Option Nat) (way : Int32), (∀ j, t = some j → j < k) → ∀ j, tkR tb q stp st s w m k t way = some j → j < k + m := by
  intro m
  induction m with
  | zero => intro k t way ht j hj; unfold tkR at hj; have := ht j hj; omega
  | succ m ih =>
    intro k t way ht j hj
    unfold tkR at hj
    have h1 : ∀ j, t = some j → j < k + 1 := fun j hj => by have := ht j hj; omega
    split at hj
    · have := ih (k + 1) t way h1 j hj; omega
    · split at hj
      · have := ih (k + 1) _ _ (fun j hj => by cases hj; omega) j hj; omega
      · have := ih (k + 1) t way h1 j hj; omega
theorem e_moveUp_in {σ : LH} {h S P r : Nat} {w : Wd} {rec28 : Int32 → Int32 → Int32 → LH → Option (Int32 × LH)} {y3 y4 y5 : Int32} (h39 : 39 ≤ h) (hS : σ.1 4 0 = nI S) (hS8 : S ≤ 8) (hP : σ.1 4 1 = nI P) (hP8 : P ≤ 8) (hr : r < 100) (hw : ∀ p, p < P → plc 8 (w 1 p)) : ∀ (m n k : Nat) (s t : Option Nat), k + m = S → m < n → (∀ j, s = some j → j < k) → (∀ j, t = some j → j < P) → s_Evening_moveUp_45 h (nI r) rec28 n y3 y4 y5 (oI s) (oI t) (nI k) (sH σ h w) = (match mvR (fun s => tkR (fun p s => σ.1 34 (r * 64 + p * 8 + s)) (σ.1 9) (σ.1 10) (σ.1 7) s w P 0 none 0) (σ.1 5) w m k s t with
    | (_, none) => s_Evening_moveUp_154 h (nI r) y3 y4 (sH σ h w)
    | (s', some t') => xb1 (s_Hall_moveUp h (nI t') (oI s') (sH σ h w)) fun σ11 => rec28 y3 y4 (y5 + 1) σ11) := by
  intro m
  induction m with
  | zero =>
    intro n k s t hk hn hs ht
    obtain ⟨n, rfl⟩ : ∃ q, n = q + 1 := ⟨n - 1, by omega⟩
    simp only [s_Evening_moveUp_45, s_Evening_moveUp_45_b]
    rw [sH_lo (b := 4) (by omega), hS, if_pos (nI_le (by omega) (by omega))]
    unfold mvR
    cases t with
    | none => rw [if_pos (show oI none = -1 from rfl)]
    | some j =>
      have := ht j rfl
      rw [if_neg (show ¬ oI (some j) = -1 from nI_m1 (by omega))]
      rfl
  | succ m ih =>
    intro n k s t hk hn hs ht
    obtain ⟨n, rfl⟩ : ∃ q, n = q + 1 := ⟨n - 1, by omega⟩
    have i8 : ib (nI k) 8 := ib_nI (by omega) (by omega)
    have cl : (nI k).toNatClampNeg = k := nI_clamp (by omega)
    have skip : ∀ (s2 t2 : Option Nat), (∀ j, s2 = some j → j < k + 1) → (∀ j, t2 = some j → j < P) → s_Evening_moveUp_125 h (nI r) (s_Evening_moveUp_45 h (nI r) rec28 n) y3 y4 y5 (oI s2) (oI t2) (nI k) (sH σ h w) = (match mvR (fun s => tkR (fun p s => σ.1 34 (r * 64 + p * 8 + s)) (σ.1 9) (σ.1 10) (σ.1 7) s w P 0 none 0) (σ.1 5) w m (k + 1) s2 t2 with
        | (_, none) => s_Evening_moveUp_154 h (nI r) y3 y4 (sH σ h w)
        | (s', some t') => xb1 (s_Hall_moveUp h (nI t') (oI s') (sH σ h w)) fun σ11 => rec28 y3 y4 (y5 + 1) σ11) := by
      intro s2 t2 h1 h2
      simp only [s_Evening_moveUp_125, xl, nI_1]
      exact ih n (k + 1) s2 t2 (by omega) (by omega) h1 h2
    have no := skip s t (fun j hj => by have := hs j hj; omega) ht
    simp only [s_Evening_moveUp_45, s_Evening_moveUp_45_b, if_pos i8, cl]
    rw [sH_lo (b := 4) (by omega), hS, if_neg (nI_ge (by omega) (by omega)), h_isFree (by omega)]
    simp only [xb2]
    unfold mvR
    have try98 : s_Evening_moveUp_98 h (nI r) (s_Evening_moveUp_45 h (nI r) rec28 n) y3 y4 y5 (oI s) (oI t) (nI k) (sH σ h w) = (match (match tkR (fun p s => σ.1 34 (r * 64 + p * 8 + s)) (σ.1 9) (σ.1 10) (σ.1 7) k w P 0 none 0 with
          | none => mvR (fun s => tkR (fun p s => σ.1 34 (r * 64 + p * 8 + s)) (σ.1 9) (σ.1 10) (σ.1 7) s w P 0 none 0) (σ.1 5) w m (k + 1) s t
          | some j => mvR (fun s => tkR (fun p s => σ.1 34 (r * 64 + p * 8 + s)) (σ.1 9) (σ.1 10) (σ.1 7) s w P 0 none 0) (σ.1 5) w m (k + 1) (some k) (some j)) with
        | (_, none) => s_Evening_moveUp_154 h (nI r) y3 y4 (sH σ h w)
        | (s', some t') => xb1 (s_Hall_moveUp h (nI t') (oI s') (sH σ h w)) fun σ11 => rec28 y3 y4 (y5 + 1) σ11) := by
      unfold s_Evening_moveUp_98
      rw [e_takerOf h39 hP hP8 hr (by omega) hw]
      simp only [xb2]
      cases htk : tkR (fun p s => σ.1 34 (r * 64 + p * 8 + s)) (σ.1 9) (σ.1 10) (σ.1 7) k w P 0 none 0 with
      | none =>
        rw [if_pos (show oI none = -1 from rfl)]
        exact no
      | some j =>
        have hj : j < P := by have := tkR_in P 0 none 0 (fun j hj => by cases hj) j htk; omega
        rw [if_neg (show ¬ oI (some j) = -1 from nI_m1 (by omega))]
        exact skip (some k) (some j) (fun i hi => by cases hi; omega) (fun i hi => by cases hi; omega)
    by_cases q1 : w 5 k = -1 ∧ w 6 k = -1
    · rw [if_pos q1, if_neg (show ¬ (1 : Int32) = 0 by decide)]
      cases s with
      | none =>
        rw [if_pos (show oI none = -1 from rfl), if_pos (show (w 5 k = -1 ∧ w 6 k = -1) ∧ mvb (σ.1 5) none k = true from ⟨q1, rfl⟩)]
        exact try98
      | some j =>
        have hj := hs j rfl
        rw [if_neg (show ¬ oI (some j) = -1 from nI_m1 (by omega))]
        have clj : Int32.toNatClampNeg (oI (some j)) = j := nI_clamp (by omega)
        rw [if_pos (show ib (oI (some j)) 8 from ib_nI (show j < 8 by omega) (by omega)), clj, sH_lo (b := 5) (by omega)]
        by_cases q2 : σ.1 5 j < σ.1 5 k
        · rw [if_pos q2, if_pos (show (w 5 k = -1 ∧ w 6 k = -1) ∧ mvb (σ.1 5) (some j) k = true from ⟨q1, decide_eq_true q2⟩)]
          exact try98
        · rw [if_neg q2, if_neg (show ¬ ((w 5 k = -1 ∧ w 6 k = -1) ∧ mvb (σ.1 5) (some j) k = true) from fun z => q2 (of_decide_eq_true z.2))]
          exact no
    · rw [if_neg q1, if_pos rfl, if_neg (fun z => q1 z.1)]
      exact no
/-- (4): the moves, at most n of them (none: there were more) -/
def muR (pick : Wd → Option Nat × Option Nat) : Nat → Wd → Nat → Option (Wd × Nat)
  | 0, _, _ => none
  | n + 1, w, M => match pick w with
    | (_, none) => some (w, M)
    | (s', some t') => muR pick n (wMove t' (oI s') w M) (M + 1)
theorem wPut_1 {p j : Nat} {to : Int32} {w : Wd} : wPut p to w 1 j = if j = p then to else w 1 j := by
  unfold wPut
  rw [u2_c (by omega), u2_c (by omega), u2_e]
  by_cases q : j = p
  · simp [q]
  · rw [if_neg (fun z => q z.2), if_neg q, wOn_c (by omega), wOff_c (by omega)]
theorem wLog_c {p M c : Nat} {to : Int32} {w : Wd} (h0 : c ≠ 0) (h8 : c ≠ 8) : wLog p to w M c = w c := by
  unfold wLog
  rw [u2_c h0, u2_c h8, u2_c h8, u2_c h8, u2_c h8]
theorem wMove_1 {p j M : Nat} {to : Int32} {w : Wd} : wMove p to w M 1 j = if j = p then to else w 1 j := by
  unfold wMove
  rw [wPut_1, wLog_c (by omega) (by omega)]
theorem wMove_m {p M : Nat} {to : Int32} {w : Wd} : wMove p to w M 0 8 = nI (M + 1) := by
  unfold wMove
  rw [wPut_0 (by omega)]
  unfold wLog
  exact u2_s
theorem mvR_in {tk : Nat → Option Nat} {wo : Nat → Int32} {w : Wd} : ∀ (m k : Nat) (s t : Option Nat), (∀ j, s = some j → j < k) → (t = none → s = none) → (s = none → t = none) → ∀ s' t', mvR tk wo w m k s t = (s', t') → (∀ j, s' = some j → j < k + m) ∧ (s' = none ↔ t' = none) := by
  intro m
  induction m with
  | zero =>
    intro k s t h1 h2 h3 s' t' e
    unfold mvR at e
    cases e
    exact ⟨fun j hj => by have := h1 j hj; omega, h3, h2⟩
  | succ m ih =>
    intro k s t h1 h2 h3 s' t' e
    have h1' : ∀ j, s = some j → j < k + 1 := fun j hj => by have := h1 j hj; omega
    unfold mvR at e
    split at e
    · split at e
      · obtain ⟨a, b⟩ := ih (k + 1) s t h1' h2 h3 s' t' e
        exact ⟨fun j hj => by have := a j hj; omega, b⟩
      · obtain ⟨a, b⟩ := ih (k + 1) _ _ (fun j hj => by cases hj; omega) (fun z => by cases z) (fun z => by cases z) s' t' e
        exact ⟨fun j hj => by have := a j hj; omega, b⟩
    · obtain ⟨a, b⟩ := ih (k + 1) s t h1' h2 h3 s' t' e
      exact ⟨fun j hj => by have := a j hj; omega, b⟩
theorem mvR_t {tk : Nat → Option Nat} {wo : Nat → Int32} {w : Wd} {P : Nat} (htk : ∀ k j, tk k = some j → j < P) : ∀ (m k : Nat) (s t : Option Nat), (∀ j, t = some j → j < P) → ∀ j, (mvR tk wo w m k s t).2 = some j → j < P := by
  intro m
  induction m with
  | zero => intro k s t h j hj; exact h j hj
  | succ m ih =>
    intro k s t h j hj
    unfold mvR at hj
    split at hj
    · split at hj
      · exact ih (k + 1) s t h j hj
      · rename_i i hi
        exact ih (k + 1) _ _ (fun z hz => by cases hz; exact htk k _ hi) j hj
    · exact ih (k + 1) s t h j hj
abbrev pickC (σ : LH) (S P r : Nat) (w : Wd) : Option Nat × Option Nat := mvR (fun s => tkR (fun p s => σ.1 34 (r * 64 + p * 8 + s)) (σ.1 9) (σ.1 10) (σ.1 7) s w P 0 none 0) (σ.1 5) w S 0 none none
theorem e_moveUp_loop {σ : LH} {h S P r : Nat} {y3 y4 : Int32} (h39 : 39 ≤ h) (hS : σ.1 4 0 = nI S) (hS8 : S ≤ 8) (hP : σ.1 4 1 = nI P) (hP8 : P ≤ 8) (hr : r < 100) : ∀ (m n k : Nat) (w : Wd) (M : Nat) (w' : Wd) (M' : Nat), muR (pickC σ S P r) m w M = some (w', M') → k + m ≤ 1000 → m < n → (∀ p, p < P → plc 8 (w 1 p)) → w 0 8 = nI M → M + m < 2 ^ 30 → s_Evening_moveUp_28 h (nI r) n y3 y4 (nI k) (sH σ h w) = s_Evening_moveUp_154 h (nI r) y3 y4 (sH σ h w') := by
  intro m
  induction m with
  | zero => intro n k w M w' M' hmu; cases hmu
  | succ m ih =>
    intro n k w M w' M' hmu hk hn hw hM hMm
    obtain ⟨n, rfl⟩ : ∃ q, n = q + 1 := ⟨n - 1, by omega⟩
    simp only [s_Evening_moveUp_28, s_Evening_moveUp_28_b]
    rw [if_neg (show ¬ (1000 : Int32) ≤ nI k from nI_ge (b := 1000) (by omega) (by omega))]
    have hin := e_moveUp_in (rec28 := s_Evening_moveUp_28 h (nI r) n) (y3 := y3) (y4 := y4) (y5 := nI k) h39 hS hS8 hP hP8 hr hw S FUEL 0 none none (by omega) (by unfold FUEL; omega) (fun j hj => by cases hj) (fun j hj => by cases hj)
    rw [show (oI none : Int32) = -1 from rfl, nI_0] at hin
    rw [hin]
    unfold muR at hmu
    cases hp : pickC σ S P r w with
    | mk s' t' =>
      rw [hp] at hmu
      have hp2 : mvR (fun s => tkR (fun p s => σ.1 34 (r * 64 + p * 8 + s)) (σ.1 9) (σ.1 10) (σ.1 7) s w P 0 none 0) (σ.1 5) w S 0 none none = (s', t') := hp
      rw [hp2]
      cases t' with
      | none =>
        simp only at hmu ⊢
        cases hmu
        rfl
      | some t =>
        simp only at hmu ⊢
        obtain ⟨a1, a2⟩ := mvR_in S 0 none none (fun j hj => by cases hj) (fun _ => rfl) (fun _ => rfl) s' (some t) hp2
        obtain ⟨s1, rfl⟩ : ∃ s1, s' = some s1 := by
          cases s' with
          | none => exact absurd (a2.mp rfl) (by simp)
          | some s1 => exact ⟨s1, rfl⟩
        have hs1 : s1 < S := by have := a1 s1 rfl; omega
        have htk : ∀ k j, tkR (fun p s => σ.1 34 (r * 64 + p * 8 + s)) (σ.1 9) (σ.1 10) (σ.1 7) k w P 0 none 0 = some j → j < P := fun k j hj => by
          have := tkR_in P 0 none 0 (fun j hj => by cases hj) j hj
          omega
        have ht : t < P := mvR_t (tk := fun k => tkR (fun p s => σ.1 34 (r * 64 + p * 8 + s)) (σ.1 9) (σ.1 10) (σ.1 7) k w P 0 none 0) htk S 0 none none (fun j hj => by cases hj) t (by rw [hp2])
        rw [h_moveUp (M := M) (by omega) hM (by omega)]
        simp only [xb1, nI_1]
        refine ih n (k + 1) _ (M + 1) w' M' hmu (by omega) (by omega) (fun p hp => ?_) wMove_m (by omega)
        rw [wMove_1]
        split
        · exact Or.inr (Or.inr ⟨s1, by omega, rfl⟩)
        · exact hw p hp
