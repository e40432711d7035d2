/-! tastes, the class: what codes are worth on its stack -/
def SK (K : Nat → Int32) (st : List Int32) : Prop := ∀ j x, st[j]? = some x → K (st.length - 1 - j) = x
theorem SK.push {K : Nat → Int32} {st : List Int32} {x : Int32} (h : SK K st) : SK (upd K st.length x) (x :: st) := by
  intro j y hj
  cases j with
  | zero =>
    simp at hj
    subst hj
    show upd K st.length x (st.length + 1 - 1 - 0) = x
    rw [show st.length + 1 - 1 - 0 = st.length by omega, pk_us]
  | succ j =>
    rw [List.getElem?_cons_succ] at hj
    have hlt : j < st.length := by
      rcases Nat.lt_or_ge j st.length with z | z
      · exact z
      · rw [List.getElem?_eq_none z] at hj; cases hj
    show upd K st.length x (st.length + 1 - 1 - (j + 1)) = y
    rw [pk_un (by omega), show st.length + 1 - 1 - (j + 1) = st.length - 1 - j by omega]
    exact h j y hj
theorem SK.tail {K : Nat → Int32} {st : List Int32} {x : Int32} (h : SK K (x :: st)) : SK K st := by
  intro j y hj
  have hlt : j < st.length := by
    rcases Nat.lt_or_ge j st.length with z | z
    · exact z
    · rw [List.getElem?_eq_none z] at hj; cases hj
  have := h (j + 1) y (by rw [List.getElem?_cons_succ]; exact hj)
  rw [← this]
  congr 1
  show st.length - 1 - j = st.length + 1 - 1 - (j + 1)
  omega
theorem SK.top {K : Nat → Int32} {st : List Int32} {x : Int32} (h : SK K (x :: st)) : K st.length = x := h 0 x rfl
theorem ti_eq {c : Int32} {n : Int} (h : (Int32.ofInt n).toInt = n) : c.toInt = n ↔ c = Int32.ofInt n := ⟨fun z => Int32.toInt_inj.mp (z.trans h.symm), fun z => by rw [z]; exact h⟩
theorem lg_le {x y : Int64} : lg_cmp x y ≤ 0 ↔ x ≤ y := by
  rw [← Int32.not_lt, lg_gt, Int64.not_lt]
theorem lg_ge {x y : Int64} : 0 ≤ lg_cmp x y ↔ y ≤ x := by
  rw [← Int32.not_lt, lg_lt, Int64.not_lt]
theorem t_133 {p0 p1 p2 : Int32} {v : Int64} {σ : LH} : s_Taste_join_133 p0 p1 p2 v σ = some (bnd v, σ) := by
  unfold s_Taste_join_133 s_Taste_join_162 bnd
  by_cases q1 : v ≤ 1000000
  · rw [if_pos (lg_le.mpr q1), if_neg (Int64.not_lt.mpr q1)]
    by_cases q2 : -1000000 ≤ v
    · rw [if_pos (lg_ge.mpr q2), if_neg (Int64.not_lt.mpr q2)]
    · rw [if_neg (fun z => q2 (lg_ge.mp z)), if_pos (Int64.not_le.mp q2)]
  · rw [if_neg (fun z => q1 (lg_le.mp z)), if_pos (Int64.not_le.mp q1)]
theorem t_join {c a b : Int32} {σ : LH} : s_Taste_join c a b σ = some (jn c a b, σ) := by
  unfold s_Taste_join jn
  have e18 : c.toInt = -18 ↔ c = -18 := ti_eq (by decide)
  have e17 : c.toInt = -17 ↔ c = -17 := ti_eq (by decide)
  have e16 : c.toInt = -16 ↔ c = -16 := ti_eq (by decide)
  have e15 : c.toInt = -15 ↔ c = -15 := ti_eq (by decide)
  have e14 : c.toInt = -14 ↔ c = -14 := ti_eq (by decide)
  have e13 : c.toInt = -13 ↔ c = -13 := ti_eq (by decide)
  have e12 : c.toInt = -12 ↔ c = -12 := ti_eq (by decide)
  have e11 : c.toInt = -11 ↔ c = -11 := ti_eq (by decide)
  simp only [e18, e17, e16, e15, e14, e13, e12, e11]
  by_cases q : c = -18
  · rw [if_pos q, if_pos q]
  · rw [if_neg q, if_neg q]
    by_cases q : c = -17
    · rw [if_pos q, if_pos q]
      unfold s_Taste_join_124
      by_cases w : a ≤ b
      · rw [if_pos w, if_pos w]
      · rw [if_neg w, if_neg w]
    · rw [if_neg q, if_neg q]
      by_cases q : c = -16
      · rw [if_pos q, if_pos q]
        unfold s_Taste_join_113
        by_cases w : b ≤ a
        · rw [if_pos w, if_pos w]
        · rw [if_neg w, if_neg w]
      · rw [if_neg q, if_neg q]
        by_cases q : c = -15
        · rw [if_pos q, if_pos q]
          unfold s_Taste_join_102
          by_cases w : a = b
          · rw [if_pos w, if_pos w]
          · rw [if_neg w, if_neg w]
        · rw [if_neg q, if_neg q]
          by_cases q : c = -14
          · rw [if_pos q, if_pos q]
            unfold s_Taste_join_88
            by_cases w : b = 0
            · rw [if_pos w, if_pos w, t_133]
            · rw [if_neg w, if_neg w, if_pos (fun z => w (i64_z.mp z)), t_133]
          · rw [if_neg q, if_neg q]
            by_cases q : c = -13
            · rw [if_pos q, if_pos q]
              simp only [xl]
              exact t_133
            · rw [if_neg q, if_neg q]
              by_cases q : c = -12
              · rw [if_pos q, if_pos q]
                simp only [xl]
                exact t_133
              · rw [if_neg q, if_neg q]
                by_cases q : c = -11
                · rw [if_pos q, if_pos q]
                  simp only [xl]
                  exact t_133
                · rw [if_neg q, if_neg q]
section
variable {σ : LH} {t len : Nat} {l : Nat → Int32}
theorem t_valy {c y : Int32} {s1 : LH} (hl : ∀ i, i < 6 → s1.1 37 i = l i) : (if c < 0 then (xl (y : Int32) fun x2 => if x2 < 0 then (s_Taste_valueOf_26 c 37 s1) else (if 6 ≤ x2 then (s_Taste_valueOf_26 c 37 s1) else (if ib x2 6 then (s_Taste_valueOf_27 c 37 (s1.1 37 (Int32.toNatClampNeg x2)) s1) else none))) else some (c, s1)) = some (if c < 0 then (if y < 0 ∨ 6 ≤ y then 0 else l y.toNatClampNeg) else c, s1) := by
  unfold s_Taste_valueOf_26 s_Taste_valueOf_27
  by_cases q : c < 0
  · rw [if_pos q, if_pos q]
    simp only [xl]
    by_cases q1 : y < 0
    · rw [if_pos q1, if_pos (show y < 0 ∨ 6 ≤ y from Or.inl q1)]
    · rw [if_neg q1]
      by_cases q2 : 6 ≤ y
      · rw [if_pos q2, if_pos (show y < 0 ∨ 6 ≤ y from Or.inr q2)]
      · rw [if_neg q2, if_neg (show ¬ (y < 0 ∨ 6 ≤ y) from fun z => z.elim q1 q2)]
        obtain ⟨j, hj, e⟩ := nI_ofx (n := 6) (by omega) (Int32.not_lt.mp q1) (show y < nI 6 from Int32.not_le.mp q2)
        rw [e, if_pos (ib_nI hj (by omega)), nI_clamp (by omega), hl j hj]
  · rw [if_neg q, if_neg q]
theorem t_val {c : Int32} {s1 : LH} (hl : ∀ i, i < 6 → s1.1 37 i = l i) : s_Taste_valueOf c 37 s1 = some (vof l c, s1) := by
  unfold s_Taste_valueOf vof
  exact t_valy hl
/-- what stands fast while codes run -/
def TW (σ : LH) (t len : Nat) (l : Nat → Int32) : Prop := 38 ≤ t ∧ len ≤ 240 ∧ σ.1 t 1 = nI len ∧ ∀ i, i < 6 → σ.1 37 i = l i
theorem t_pre (W : TW σ t len l) {K : Nat → Int32} {n at' cnt : Nat} {c y2 : Int32} (hat : at' < len) (hc : σ.1 (t + 1) at' = c) (hcnt : cnt < 480) : ¬ (480 : Int32) ≤ nI cnt ∧ ¬ nI at' < 0 ∧ ¬ (stF σ (t + 2) K).1 t 1 ≤ nI at' ∧ ¬ (480 : Int32) ≤ nI at' ∧ ib (nI at') 480 ∧ (stF σ (t + 2) K).1 (t + 1) (nI at').toNatClampNeg = c := by
  obtain ⟨W1, W2, W3, W4⟩ := W
  refine ⟨nI_ge (b := 480) hcnt (by omega), nI_pos (by omega), ?_, nI_ge (b := 480) (by omega) (by omega), ib_nI (by omega) (by omega), ?_⟩
  · rw [stF_n (by omega), W3]; exact nI_ge hat (by omega)
  · rw [nI_clamp (show at' < 2 ^ 31 by omega), stF_n (by omega), hc]
theorem t_stepN (W : TW σ t len l) {K : Nat → Int32} {n at' cnt r : Nat} (hat : at' < len) (hc : σ.1 (t + 1) at' = -20) (hcnt : cnt < 480) (hr : r + 1 ≤ 64) : s_Taste_worth_7 t 37 (n + 1) (nI (r + 1)) (nI at') (nI cnt) (stF σ (t + 2) K) = s_Taste_worth_7 t 37 n (nI (r + 1)) (nI (at' + 1)) (nI (cnt + 1)) (stF σ (t + 2) (upd K r (1 - K r))) := by
  obtain ⟨h1, h2, h3, h4, h5, h6⟩ := t_pre W (K := K) (n := n) (y2 := 0) hat hc hcnt
  rw [s_Taste_worth_7]
  unfold s_Taste_worth_7_b s_Taste_worth_251
  rw [nI_pred, pk_m1, nI_1 cnt, nI_1 at', if_neg h1, if_neg h2, if_neg h3, if_neg h4, if_pos h5, h6]
  simp only [xl]
  rw [if_pos (show (-20 : Int32) ≤ -11 by decide), if_pos trivial, if_neg (show ¬ nI (r + 1) < 1 from nI_nlt (b := 1) (by omega) (by omega)), if_pos (show nI (r + 1) ≤ 64 from nI_le (b := 64) (by omega) (by omega)), if_pos (ib_nI (by omega) (by omega)), if_pos (ib_nI (by omega) (by omega)), nI_clamp (show r < 2 ^ 31 by omega), stF_s, stI_F]
theorem t_stepB (W : TW σ t len l) {K : Nat → Int32} {c : Int32} {n at' cnt r : Nat} (hat : at' < len) (hc : σ.1 (t + 1) at' = c) (hcnt : cnt < 480) (hr : r + 1 + 1 ≤ 64) (q1 : c ≤ -11) (q2 : c ≠ -20) (q3 : c ≠ -21) (q4 : c ≠ -22) : s_Taste_worth_7 t 37 (n + 1) (nI (r + 1 + 1)) (nI at') (nI cnt) (stF σ (t + 2) K) = s_Taste_worth_7 t 37 n (nI (r + 1)) (nI (at' + 1)) (nI (cnt + 1)) (stF σ (t + 2) (upd K r (jn c (K r) (K (r + 1))))) := by
  obtain ⟨h1, h2, h3, h4, h5, h6⟩ := t_pre W (K := K) (n := n) (y2 := 0) hat hc hcnt
  rw [s_Taste_worth_7]
  unfold s_Taste_worth_7_b s_Taste_worth_251
  rw [pk_m1, nI_1 cnt, nI_1 at', if_neg h1, if_neg h2, if_neg h3, if_neg h4, if_pos h5, h6]
  simp only [xl]
  rw [if_pos q1, if_neg q2, if_neg q3, if_neg q4, nI_pred, if_neg (show ¬ nI (r + 1 + 1) < 2 from nI_nlt (b := 2) (by omega) (by omega)), if_pos (show nI (r + 1 + 1) ≤ 64 from nI_le (b := 64) (by omega) (by omega)), if_pos (ib_nI (by omega) (by omega)), if_pos (ib_nI (by omega) (by omega)), nI_clamp (show r < 2 ^ 31 by omega), nI_clamp (show r + 1 < 2 ^ 31 by omega), stF_s, t_join]
  simp only [xb2]
  rw [if_pos (ib_nI (by omega) (by omega)), stI_F]
theorem t_stepP (W : TW σ t len l) {K : Nat → Int32} {c : Int32} {n at' cnt r : Nat} (hat : at' < len) (hc : σ.1 (t + 1) at' = c) (hcnt : cnt < 480) (hr : r < 64) (q1 : ¬ c ≤ -11) : s_Taste_worth_7 t 37 (n + 1) (nI r) (nI at') (nI cnt) (stF σ (t + 2) K) = s_Taste_worth_7 t 37 n (nI (r + 1)) (nI (at' + 1)) (nI (cnt + 1)) (stF σ (t + 2) (upd K r (vof l c))) := by
  obtain ⟨h1, h2, h3, h4, h5, h6⟩ := t_pre W (K := K) (n := n) (y2 := 0) hat hc hcnt
  have W1 := W.1
  obtain ⟨u, hu⟩ : ∃ u, nI r + (-1) = u := ⟨_, rfl⟩
  obtain ⟨u2, hu2⟩ : ∃ u2, nI r - 1 = u2 := ⟨_, rfl⟩
  rw [s_Taste_worth_7]
  unfold s_Taste_worth_7_b s_Taste_worth_251
  rw [hu, hu2, nI_1 cnt, nI_1 at', if_neg h1, if_neg h2, if_neg h3, if_neg h4, if_pos h5, h6]
  simp only [xl]
  rw [if_neg q1, if_neg (nI_pos (by omega)), if_pos (show nI r < 64 from nI_lt (b := 64) hr (by omega)), t_val (l := l) (fun i hi => by rw [stF_n (by omega)]; exact W.2.2.2 i hi)]
  simp only [xb2]
  rw [if_pos (ib_nI hr (by omega)), nI_clamp (show r < 2 ^ 31 by omega), stI_F, nI_1 r]
theorem t_step (W : TW σ t len l) {c : Int32} {st st' : List Int32} {K : Nat → Int32} {n at' cnt : Nat} (hat : at' < len) (hc : σ.1 (t + 1) at' = c) (hcnt : cnt < 480) (hst : st.length ≤ 64) (hK : SK K st) (hx : ex1 l c st = some st') : ∃ K', s_Taste_worth_7 t 37 (n + 1) (nI st.length) (nI at') (nI cnt) (stF σ (t + 2) K) = s_Taste_worth_7 t 37 n (nI st'.length) (nI (at' + 1)) (nI (cnt + 1)) (stF σ (t + 2) K') ∧ SK K' st' ∧ st'.length ≤ 64 := by
  unfold ex1 at hx
  by_cases q1 : c ≤ -11
  · rw [if_pos q1] at hx
    by_cases q2 : c = -20
    · rw [if_pos q2] at hx
      cases st with
      | nil => cases hx
      | cons x r =>
        simp only [Option.some.injEq] at hx
        subst hx
        have e := t_stepN W (K := K) (n := n) hat (hc.trans q2) hcnt (r := r.length) hst
        have ek : K r.length = x := hK.top
        rw [ek] at e
        exact ⟨_, e, hK.tail.push, hst⟩
    · rw [if_neg q2] at hx
      by_cases q3 : c = -21 ∨ c = -22
      · rw [if_pos q3] at hx; cases hx
      · rw [if_neg q3] at hx
        cases st with
        | nil => cases hx
        | cons y r0 =>
          cases r0 with
          | nil => cases hx
          | cons x r =>
            simp only [Option.some.injEq] at hx
            subst hx
            have hr : r.length + 1 + 1 ≤ 64 := hst
            have e := t_stepB W (K := K) (n := n) hat hc hcnt (r := r.length) hst q1 q2 (fun z => q3 (Or.inl z)) (fun z => q3 (Or.inr z))
            have hb : K (r.length + 1) = y := hK.top
            have ha : K r.length = x := hK.tail.top
            rw [ha, hb] at e
            exact ⟨_, e, hK.tail.tail.push, by show r.length + 1 ≤ 64; omega⟩
  · rw [if_neg q1] at hx
    by_cases q2 : st.length < 64
    · rw [if_pos q2] at hx
      simp only [Option.some.injEq] at hx
      subst hx
      exact ⟨_, t_stepP W hat hc hcnt q2 q1, hK.push, by show st.length + 1 ≤ 64; omega⟩
    · rw [if_neg q2] at hx; cases hx
theorem t_run (W : TW σ t len l) : ∀ (cs : List Int32) (st st' : List Int32) (K : Nat → Int32) (n at' cnt : Nat), at' + cs.length ≤ len → (∀ i, i < cs.length → σ.1 (t + 1) (at' + i) = cs.getD i 0) → cnt + cs.length ≤ 480 → cs.length ≤ n → st.length ≤ 64 → SK K st → exs l cs st = some st' → ∃ K', s_Taste_worth_7 t 37 n (nI st.length) (nI at') (nI cnt) (stF σ (t + 2) K) = s_Taste_worth_7 t 37 (n - cs.length) (nI st'.length) (nI (at' + cs.length)) (nI (cnt + cs.length)) (stF σ (t + 2) K') ∧ SK K' st' ∧ st'.length ≤ 64 := by
  intro cs
  induction cs with
  | nil =>
    intro st st' K n at' cnt h1 h2 h3 h4 h5 h6 h7
    cases h7
    exact ⟨K, rfl, h6, h5⟩
  | cons c cs ih =>
    intro st st' K n at' cnt h1 h2 h3 h4 h5 h6 h7
    have l1 : (c :: cs).length = cs.length + 1 := rfl
    rw [l1] at h1 h2 h3 h4 ⊢
    obtain ⟨n, rfl⟩ : ∃ q, n = q + 1 := ⟨n - 1, by omega⟩
    have h8 : (ex1 l c st).bind (exs l cs) = some st' := h7
    cases hx : ex1 l c st with
    | none => rw [hx] at h8; cases h8
    | some s1 =>
      rw [hx] at h8
      obtain ⟨K1, e1, e2, e3⟩ := t_step W (n := n) (cnt := cnt) (show at' < len by omega) (c := c) (h2 0 (by omega)) (by omega) h5 h6 hx
      obtain ⟨K2, f1, f2, f3⟩ := ih s1 st' K1 n (at' + 1) (cnt + 1) (by omega) (fun i hi => by rw [show at' + 1 + i = at' + (i + 1) by omega, h2 (i + 1) (by omega)]; rfl) (by omega) (by omega) e3 e2 h8
      refine ⟨K2, ?_, f2, f3⟩
      rw [e1, f1, show n + 1 - (cs.length + 1) = n - cs.length by omega, show at' + 1 + cs.length = at' + (cs.length + 1) by omega, show cnt + 1 + cs.length = cnt + (cs.length + 1) by omega]
theorem evl_of {cs : List Int32} {v : Int32} (h : exs l cs [] = some [v]) : evl l cs = v := by
  unfold evl
  rw [h]
theorem getD_app1 {a b : List Int32} {i : Nat} (h : i < a.length) : (a ++ b).getD i 0 = a.getD i 0 := by
  rw [List.getD_eq_getElem?_getD, List.getD_eq_getElem?_getD, List.getElem?_append_left h]
theorem getD_app2 {a b : List Int32} {i : Nat} (h : a.length ≤ i) : (a ++ b).getD i 0 = b.getD (i - a.length) 0 := by
  rw [List.getD_eq_getElem?_getD, List.getD_eq_getElem?_getD, List.getElem?_append_right h]
theorem t_step22 (W : TW σ t len l) {K : Nat → Int32} {n at' cnt r : Nat} (hat : at' < len) (hc : σ.1 (t + 1) at' = -22) (hcnt : cnt < 480) (hr : r + 1 ≤ 64) : s_Taste_worth_7 t 37 (n + 1) (nI (r + 1)) (nI at') (nI cnt) (stF σ (t + 2) K) = some (K r, stF σ (t + 2) K) := by
  obtain ⟨h1, h2, h3, h4, h5, h6⟩ := t_pre W (K := K) (n := n) (y2 := 0) hat hc hcnt
  rw [s_Taste_worth_7]
  unfold s_Taste_worth_7_b s_Taste_worth_207
  rw [nI_pred, pk_m1, nI_1 at', if_neg h1, if_neg h2, if_neg h3, if_neg h4, if_pos h5, h6]
  simp only [xl]
  rw [if_pos (show (-22 : Int32) ≤ -11 by decide), if_neg (show ¬ (-22 : Int32) = -20 by decide), if_neg (show ¬ (-22 : Int32) = -21 by decide), if_pos trivial, if_neg (show ¬ nI (r + 1) ≤ 0 from nI_nle (by omega) (by omega)), if_neg (show ¬ 64 < nI (r + 1) from nI_nlt (b := r + 1) (a := 64) (by omega) (by omega)), if_pos (ib_nI (by omega) (by omega)), nI_clamp (show r < 2 ^ 31 by omega), stF_s]
theorem t_step21 (W : TW σ t len l) {K : Nat → Int32} {n at' cnt g r : Nat} (hat : at' + 1 < len) (hc : σ.1 (t + 1) at' = -21) (hg : σ.1 (t + 1) (at' + 1) = nI g) (hcnt : cnt < 480) (hr : r + 1 ≤ 64) : s_Taste_worth_7 t 37 (n + 1) (nI (r + 1)) (nI at') (nI cnt) (stF σ (t + 2) K) = s_Taste_worth_7 t 37 n (nI r) (if K r = 0 then nI g else nI (at' + 2)) (nI (cnt + 1)) (stF σ (t + 2) K) := by
  obtain ⟨h1, h2, h3, h4, h5, h6⟩ := t_pre W (K := K) (n := n) (y2 := 0) (show at' < len by omega) hc hcnt
  have W1 := W.1
  have W2 := W.2.1
  rw [s_Taste_worth_7]
  unfold s_Taste_worth_7_b s_Taste_worth_174 s_Taste_worth_251
  rw [pk_m1, nI_pred, nI_1 at', nI_1 cnt, if_neg h1, if_neg h2, if_neg h3, if_neg h4, if_pos h5, h6]
  simp only [xl]
  rw [if_pos (show (-21 : Int32) ≤ -11 by decide), if_neg (show ¬ (-21 : Int32) = -20 by decide), if_pos trivial, if_neg (show ¬ nI (r + 1) < 1 from nI_nlt (b := 1) (by omega) (by omega)), if_neg (show ¬ 64 < nI (r + 1) from nI_nlt (b := r + 1) (a := 64) (by omega) (by omega)), if_pos (show nI (at' + 1) < 480 from nI_lt (b := 480) (by omega) (by omega)), if_pos (ib_nI (by omega) (by omega)), stF_s, nI_clamp (show r < 2 ^ 31 by omega), if_pos (ib_nI (by omega) (by omega)), nI_clamp (show at' + 1 < 2 ^ 31 by omega), stF_n (by omega), hg, nI_1]
  by_cases w : K r = 0
  · rw [if_pos w, if_pos w]
  · rw [if_neg w, if_neg w]
/-- a sum and its end -/
theorem t_done (W : TW σ t len l) {cs : List Int32} {v : Int32} {K : Nat → Int32} {n at' cnt : Nat} (h1 : at' + cs.length + 1 ≤ len) (h2 : ∀ i, i < cs.length → σ.1 (t + 1) (at' + i) = cs.getD i 0) (h2' : σ.1 (t + 1) (at' + cs.length) = -22) (h3 : cnt + cs.length < 480) (h4 : cs.length < n) (h7 : exs l cs [] = some [v]) : ∃ K', s_Taste_worth_7 t 37 n 0 (nI at') (nI cnt) (stF σ (t + 2) K) = some (v, stF σ (t + 2) K') := by
  obtain ⟨K1, e1, e2, e3⟩ := t_run W cs [] [v] K n at' cnt (by omega) h2 (by omega) (by omega) (by show 0 ≤ 64; omega) (fun j x hj => by cases hj) h7
  refine ⟨K1, ?_⟩
  obtain ⟨n', hn'⟩ : ∃ q, n - cs.length = q + 1 := ⟨n - cs.length - 1, by omega⟩
  have e4 := t_step22 W (K := K1) (n := n') (r := 0) (show at' + cs.length < len by omega) h2' h3 (by omega)
  rw [hn'] at e1
  have e5 : K1 0 = v := e2.top
  rw [e5] at e4
  exact e1.trans e4
theorem t_cls (W : TW σ t len l) : ∀ (cl : CL) (k n cnt : Nat) (K : Nat → Int32), k + (encA k cl).length = len → (∀ i, i < (encA k cl).length → σ.1 (t + 1) (k + i) = (encA k cl).getD i 0) → cnt ≤ k → (encA k cl).length < n → (∀ q ∈ cl, WFq l q) → ∃ K', s_Taste_worth_7 t 37 n 0 (nI k) (nI cnt) (stF σ (t + 2) K) = some (wOf l cl, stF σ (t + 2) K') := by
  have W0 := W
  obtain ⟨W1, W2, W3, W4⟩ := W
  intro cl
  induction cl with
  | nil =>
    intro k n cnt K h1 h2 h3 h4 h5
    have h1 : k + 0 = len := h1
    obtain ⟨n, rfl⟩ : ∃ q, n = q + 1 := ⟨n - 1, by omega⟩
    refine ⟨K, ?_⟩
    rw [s_Taste_worth_7]
    unfold s_Taste_worth_7_b s_Taste_worth_257
    rw [if_neg (show ¬ (480 : Int32) ≤ nI cnt from nI_ge (b := 480) (by omega) (by omega)), if_neg (nI_pos (by omega)), stF_n (by omega), W3, if_pos (nI_le (by omega) (by omega))]
    rfl
  | cons q r ih =>
    intro k n cnt K h1 h2 h3 h4 h5
    have hA : encA k (q :: r) = encC k q ++ encA (k + (encC k q).length) r := rfl
    rw [hA, List.length_append] at h1 h4
    rw [hA, List.length_append] at h2
    obtain ⟨wf1, v, wf2⟩ := h5 q List.mem_cons_self
    have hCl := encC_len (k := k) (q := q)
    have h2c : ∀ i, i < lenC q → σ.1 (t + 1) (k + i) = (encC k q).getD i 0 := fun i hi => by
      rw [h2 i (by omega), getD_app1 (by omega)]
    cases hq : q.1 with
    | none =>
      have hE : encC k q = q.2 ++ [-22] := by unfold encC; rw [hq]
      have hL : lenC q = q.2.length + 1 := by unfold lenC; rw [hq]
      have hw : wOf l (q :: r) = v := by
        show (if cdV l q.1 = 0 then wOf l r else evl l q.2) = v
        rw [hq, if_neg (show ¬ cdV l none = 0 by show ¬ (1 : Int32) = 0; decide), evl_of wf2]
      rw [hw]
      refine t_done W0 (cs := q.2) (by omega) (fun i hi => ?_) ?_ (by omega) (by omega) wf2
      · rw [h2c i (by omega), hE, getD_app1 hi]
      · rw [h2c _ (by omega), hE, getD_app2 (Nat.le_refl _), Nat.sub_self]
        rfl
    | some c =>
      obtain ⟨u, wf3⟩ := wf1 c hq
      have hE : encC k q = c ++ [-21, nI (k + c.length + q.2.length + 3)] ++ q.2 ++ [-22] := by unfold encC; rw [hq]
      have hL : lenC q = c.length + q.2.length + 3 := by unfold lenC; rw [hq]
      have l2 : (c ++ [-21, nI (k + c.length + q.2.length + 3)]).length = c.length + 2 := by rw [List.length_append]; rfl
      have l3 : (c ++ [-21, nI (k + c.length + q.2.length + 3)] ++ q.2).length = c.length + 2 + q.2.length := by rw [List.length_append, l2]
      have cC : ∀ i, i < c.length → σ.1 (t + 1) (k + i) = c.getD i 0 := fun i hi => by
        rw [h2c i (by omega), hE, getD_app1 (by omega), getD_app1 (by omega), getD_app1 hi]
      have c21 : σ.1 (t + 1) (k + c.length) = -21 := by
        rw [h2c _ (by omega), hE, getD_app1 (by omega), getD_app1 (by omega), getD_app2 (Nat.le_refl _), Nat.sub_self]
        rfl
      have cT : σ.1 (t + 1) (k + c.length + 1) = nI (k + c.length + q.2.length + 3) := by
        rw [show k + c.length + 1 = k + (c.length + 1) by omega, h2c _ (by omega), hE, getD_app1 (by omega), getD_app1 (by omega), getD_app2 (by omega), show c.length + 1 - c.length = 1 by omega]
        rfl
      have cS2 : ∀ i, i < q.2.length → σ.1 (t + 1) (k + c.length + 2 + i) = q.2.getD i 0 := fun i hi => by
        rw [show k + c.length + 2 + i = k + (c.length + 2 + i) by omega, h2c _ (by omega), hE, getD_app1 (by omega), getD_app2 (by omega), l2]
        congr 1
        omega
      have c22 : σ.1 (t + 1) (k + c.length + 2 + q.2.length) = -22 := by
        rw [show k + c.length + 2 + q.2.length = k + (c.length + 2 + q.2.length) by omega, h2c _ (by omega), hE, getD_app2 (by omega), l3, Nat.sub_self]
        rfl
      obtain ⟨K1, e1, e2, e3⟩ := t_run W0 c [] [u] K n k cnt (by omega) cC (by omega) (by omega) (by show 0 ≤ 64; omega) (fun j x hj => by cases hj) wf3
      have top : K1 0 = u := e2.top
      have run : s_Taste_worth_7 t 37 n 0 (nI k) (nI cnt) (stF σ (t + 2) K) = s_Taste_worth_7 t 37 (n - c.length - 1) 0 (if u = 0 then nI (k + c.length + q.2.length + 3) else nI (k + c.length + 2)) (nI (cnt + c.length + 1)) (stF σ (t + 2) K1) := by
        obtain ⟨n', hn'⟩ : ∃ q, n - c.length = q + 1 := ⟨n - c.length - 1, by omega⟩
        have e4 := t_step21 W0 (K := K1) (n := n') (r := 0) (cnt := cnt + c.length) (show k + c.length + 1 < len by omega) c21 cT (by omega) (by omega)
        rw [hn'] at e1
        rw [top] at e4
        rw [show n - c.length - 1 = n' by omega]
        exact e1.trans e4
      rw [run]
      have hw : wOf l (q :: r) = if u = 0 then wOf l r else v := by
        show (if cdV l q.1 = 0 then wOf l r else evl l q.2) = _
        rw [hq, show cdV l (some c) = evl l c from rfl, evl_of wf3, evl_of wf2]
      rw [hw]
      by_cases w : u = 0
      · rw [if_pos w, if_pos w]
        have hk2 : k + c.length + q.2.length + 3 = k + (encC k q).length := by omega
        rw [hk2]
        refine ih (k + (encC k q).length) (n - c.length - 1) (cnt + c.length + 1) K1 (by omega) (fun i hi => ?_) (by omega) (by omega) (fun p hp => h5 p (List.mem_cons_of_mem _ hp))
        rw [show k + (encC k q).length + i = k + ((encC k q).length + i) by omega, h2 _ (by omega), getD_app2 (by omega)]
        congr 1
        omega
      · rw [if_neg w, if_neg w]
        exact t_done W0 (cs := q.2) (by omega) cS2 c22 (by omega) (by omega) wf2
/-- a taste's worth -/
theorem t_worth {cl : CL} (W : TW σ t (encA 0 cl).length l) (hC : ∀ i, i < (encA 0 cl).length → σ.1 (t + 1) i = (encA 0 cl).getD i 0) (hw : ∀ q ∈ cl, WFq l q) : ∃ K', s_Taste_worth t 37 σ = some (wOf l cl, stF σ (t + 2) K') := by
  have h2 := W.2.1
  obtain ⟨K', e⟩ := t_cls W cl 0 FUEL 0 (σ.1 (t + 2)) (by omega) (fun i hi => by rw [Nat.zero_add]; exact hC i hi) (by omega) (by unfold FUEL; omega) hw
  rw [stF_id, nI_0] at e
  exact ⟨K', e⟩
end
