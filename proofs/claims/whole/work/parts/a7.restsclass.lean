/-! games of waiting that rest: the class -/
/-- rests counted from a row on -/
noncomputable def rsF (τ0 : LH) (hs : List Nat) (qn : Nat → Nat) (c i : Int32) : Nat → Nat → Nat → Int32
  | 0, _, cnt => if i = -1 then nI cnt else -1
  | m + 1, N, cnt => @ite Int32 (isR τ0 hs qn c N) (Classical.propDecidable _) (if nI cnt = i then nI (rowN hs.length N hs.length 0 0) else rsF τ0 hs qn c i m (N + 1) (cnt + 1)) (rsF τ0 hs qn c i m (N + 1) cnt)
section
variable {σ τ σ' σ0 τ0 : LH} {sz : Nat} {qn : Nat → Nat} {hs : List Nat} {c i : Int32}
theorem NDc.set {N k v : Nat} (h1 : sz < 5) (h2 : N < 5 ^ sz) (h3 : k < sz) (h4 : v < 5) (h : NDc σ sz N) : NDc (stI σ 79 k (nI v)) sz (sdg sz N k v) := by
  obtain ⟨_, _, a⟩ := sdg_ok h1 h2 h3 h4
  intro j hj
  rw [stI_e, a j hj]
  by_cases q : j = k
  · rw [if_pos q, if_pos q]
  · rw [if_neg q, if_neg q]
    exact h j hj
theorem sdg_sdg {N k v w : Nat} (h1 : sz < 5) (h2 : N < 5 ^ sz) (h3 : k < sz) (h4 : v < 5) (h5 : w < 5) : ∀ j, j < sz → dgt sz (sdg sz (sdg sz N k v) k w) j = dgt sz (sdg sz N k w) j := by
  obtain ⟨b1, _, a⟩ := sdg_ok h1 h2 h3 h4
  obtain ⟨_, _, b⟩ := sdg_ok h1 b1 h3 h5
  obtain ⟨_, _, d⟩ := sdg_ok h1 h2 h3 h5
  intro j hj
  rw [b j hj, d j hj, a j hj]
  by_cases q : j = k
  · rw [if_pos q, if_pos q]
  · rw [if_neg q, if_neg q, if_neg q]
/-- numbers as a row's, but for one -/
def NDx (σ : LH) (sz N k : Nat) : Prop := ∀ j, j < sz → j ≠ k → σ.1 79 j = nI (dgt sz N j)
theorem NDx.nd {N k v : Nat} (h1 : sz < 5) (h2 : N < 5 ^ sz) (h3 : k < sz) (h4 : v < 5) (h : NDx σ sz N k) : NDc (stI σ 79 k (nI v)) sz (sdg sz N k v) := by
  obtain ⟨_, _, a⟩ := sdg_ok h1 h2 h3 h4
  intro j hj
  rw [stI_e, a j hj]
  by_cases q : j = k
  · rw [if_pos q, if_pos q]
  · rw [if_neg q, if_neg q]
    exact h j hj q
theorem s_rest31 {N k : Nat} {rec2 : Int32 → LH → Option (Int32 × LH)} (h4 : hs.length ≤ 4) (hP : ∀ i, i < hs.length → hs.getD i 0 < 8) (hN : N < 5 ^ hs.length) (hk : k < hs.length) : ∀ (r nn v : Nat) (y5 : Int32) (σ : LH), v + r = 5 → r < nn → b01 y5 → SGc σ0 τ0 hs qn σ → NDx σ hs.length N k → ∃ σ' y, b01 y ∧ (y = 0 ↔ (y5 = 0 ∧ ∀ w, v ≤ w → w < 5 → gN τ0 hs qn c (sdg hs.length N k w) k ≤ gN τ0 hs qn c N k)) ∧ SGc σ0 τ0 hs qn σ' ∧ NDc σ' hs.length N ∧ s_Game_isRest_31 c rec2 nn (nI k) (nI (dgt hs.length N k)) (gN τ0 hs qn c N k) y5 (nI v) σ = if y = 0 then rec2 (nI (k + 1)) σ' else some (0, σ') := by
  intro r
  induction r with
  | zero =>
    intro nn v y5 σ hv hn hy G hX
    obtain ⟨nn, rfl⟩ : ∃ q, nn = q + 1 := ⟨nn - 1, by omega⟩
    refine ⟨stI σ 79 k (nI (dgt hs.length N k)), y5, hy, ⟨fun z => ⟨z, fun w h1 h2 => by omega⟩, fun z => z.1⟩, G.num, fun j hj => ?_, ?_⟩
    · rw [stI_e]
      by_cases q : j = k
      · rw [if_pos q, q]
      · rw [if_neg q]
        exact hX j hj q
    · rw [s_Game_isRest_31]
      unfold s_Game_isRest_31_b
      rw [if_pos (show (4 : Int32) < nI v from nI_lt (a := 4) (by omega) (by omega)), if_pos (ib_nI (show k < 4 by omega) (by omega)), nI_clamp (show k < 2 ^ 31 by omega), xl_so, xl_so, nI_1]
  | succ r ih =>
    intro nn v y5 σ hv hn hy G hX
    obtain ⟨nn, rfl⟩ : ∃ q, nn = q + 1 := ⟨nn - 1, by omega⟩
    have G1 : SGc σ0 τ0 hs qn (stI σ 79 k (nI v)) := G.num
    have N1 := hX.nd (by omega) hN hk (show v < 5 by omega)
    have X1 : NDx (stI σ 79 k (nI v)) hs.length N k := fun j hj q => by rw [stI_e, if_neg q]; exact hX j hj q
    rw [s_Game_isRest_31]
    unfold s_Game_isRest_31_b s_Game_isRest_59
    rw [if_neg (show ¬ (4 : Int32) < nI v from nI_nlt (a := 4) (b := v) (by omega) (by omega)), if_pos (ib_nI (show k < 4 by omega) (by omega)), nI_clamp (show k < 2 ^ 31 by omega), xl_so, s_gain G1 h4 hP N1 hk, xb2_so, xl_so, xl_so, nI_1]
    by_cases q : gN τ0 hs qn c (sdg hs.length N k v) k ≤ gN τ0 hs qn c N k
    · rw [if_pos q]
      obtain ⟨σ', y, a1, a2, a3⟩ := ih nn (v + 1) y5 _ (by omega) (by omega) hy G1 X1
      refine ⟨σ', y, a1, ?_, a3⟩
      rw [a2]
      constructor
      · intro h
        refine ⟨h.1, fun w h1 h2 => ?_⟩
        by_cases z : w = v
        · rw [z]; exact q
        · exact h.2 w (by omega) h2
      · intro h
        exact ⟨h.1, fun w h1 h2 => h.2 w (by omega) h2⟩
    · rw [if_neg q]
      obtain ⟨σ', y, a1, a2, a3⟩ := ih nn (v + 1) 1 _ (by omega) (by omega) (Or.inr rfl) G1 X1
      refine ⟨σ', y, a1, ?_, a3⟩
      rw [a2]
      constructor
      · intro h
        exact absurd h.1 (by decide)
      · intro h
        exact absurd (h.2 v (by omega) (by omega)) q
theorem s_isRest {N : Nat} (h4 : hs.length ≤ 4) (hP : ∀ i, i < hs.length → hs.getD i 0 < 8) (hN : N < 5 ^ hs.length) (G : SGc σ0 τ0 hs qn σ) (hD : NDc σ hs.length N) : ∃ σ' y, b01 y ∧ (y = 1 ↔ isR τ0 hs qn c N) ∧ SGc σ0 τ0 hs qn σ' ∧ NDc σ' hs.length N ∧ s_Game_isRest c σ = some (y, σ') := by
  have main : ∀ (r nn k : Nat) (σ : LH), k + r = hs.length → r < nn → SGc σ0 τ0 hs qn σ → NDc σ hs.length N → (∀ k', k' < k → ∀ v, v < 5 → gN τ0 hs qn c (sdg hs.length N k' v) k' ≤ gN τ0 hs qn c N k') → ∃ σ' y, b01 y ∧ (y = 1 ↔ isR τ0 hs qn c N) ∧ SGc σ0 τ0 hs qn σ' ∧ NDc σ' hs.length N ∧ s_Game_isRest_2 c nn (nI k) σ = some (y, σ') := by
    intro r
    induction r with
    | zero =>
      intro nn k σ hk hn G hD hq
      obtain ⟨nn, rfl⟩ : ∃ q, nn = q + 1 := ⟨nn - 1, by omega⟩
      refine ⟨σ, 1, Or.inr rfl, ⟨fun _ k' h' => hq k' (by omega), fun _ => rfl⟩, G, hD, ?_⟩
      rw [s_Game_isRest_2]
      unfold s_Game_isRest_2_b
      rw [G.1.1, if_pos (nI_le (by omega) (by omega))]
    | succ r ih =>
      intro nn k σ hk hn G hD hq
      obtain ⟨nn, rfl⟩ : ∃ q, nn = q + 1 := ⟨nn - 1, by omega⟩
      have hkl : k < hs.length := by omega
      obtain ⟨σ1, y, a1, a2, a3, a4, a5⟩ := s_rest31 (c := c) (rec2 := s_Game_isRest_2 c nn) h4 hP hN hkl 5 FUEL 0 0 σ (by omega) (by unfold FUEL; omega) (Or.inl rfl) G (fun j hj _ => hD j hj)
      have run : s_Game_isRest_2 c (nn + 1) (nI k) σ = if y = 0 then s_Game_isRest_2 c nn (nI (k + 1)) σ1 else some (0, σ1) := by
        rw [s_Game_isRest_2]
        unfold s_Game_isRest_2_b
        rw [G.1.1, if_neg (nI_ge (by omega) (by omega)), if_pos (ib_nI (show k < 4 by omega) (by omega)), nI_clamp (show k < 2 ^ 31 by omega), hD k hkl, xl_so, s_gain G h4 hP hD hkl, xb2_so]
        rw [nI_0] at a5
        exact a5
      by_cases q : y = 0
      · rw [if_pos q] at run
        obtain ⟨σ', z, b1, b2⟩ := ih nn (k + 1) σ1 (by omega) (by omega) a3 a4 (fun k' h' v hv => by
          by_cases w : k' = k
          · rw [w]; exact (a2.mp q).2 v (by omega) hv
          · exact hq k' (by omega) v hv)
        refine ⟨σ', z, b1, b2.1, b2.2.1, b2.2.2.1, run.trans b2.2.2.2⟩
      · rw [if_neg q] at run
        refine ⟨σ1, 0, Or.inl rfl, ⟨fun z => absurd z (by decide), fun z => ?_⟩, a3, a4, run⟩
        exact absurd (a2.mpr ⟨rfl, fun w _ h2 => z k hkl w h2⟩) q
  have := main hs.length FUEL 0 σ (by omega) (by unfold FUEL; omega) G hD (fun k' h' => by omega)
  rw [nI_0] at this
  exact this
theorem s_up {N : Nat} (h1 : 1 ≤ hs.length) (h4 : hs.length ≤ 4) (hN : N < 5 ^ hs.length) (G : SGc σ0 τ0 hs qn σ) (hD : NDc σ hs.length N) : ∃ σ', SGc σ0 τ0 hs qn σ' ∧ ((N + 1 < 5 ^ hs.length ∧ s_Game_countUp σ = some (1, σ') ∧ NDc σ' hs.length (N + 1)) ∨ (N + 1 = 5 ^ hs.length ∧ s_Game_countUp σ = some (0, σ'))) := by
  have main : ∀ (r nn : Nat) (σ : LH), r ≤ hs.length → r < nn → SGc σ0 τ0 hs qn σ → (∀ j, j < r → σ.1 79 j = nI (dgt hs.length N j)) → (∀ j, r ≤ j → j < hs.length → σ.1 79 j = 0 ∧ dgt hs.length N j = 4) → ∃ σ', SGc σ0 τ0 hs qn σ' ∧ ((N + 1 < 5 ^ hs.length ∧ s_Game_countUp_7 nn (nI r + (-1)) σ = some (1, σ') ∧ NDc σ' hs.length (N + 1)) ∨ (N + 1 = 5 ^ hs.length ∧ s_Game_countUp_7 nn (nI r + (-1)) σ = some (0, σ'))) := by
    intro r
    induction r with
    | zero =>
      intro nn σ hr hn G hlo hhi
      obtain ⟨nn, rfl⟩ : ∃ q, nn = q + 1 := ⟨nn - 1, by omega⟩
      refine ⟨σ, G, Or.inr ⟨cup_end (by omega) hN (fun j hj => (hhi j (by omega) hj).2), ?_⟩⟩
      rw [s_Game_countUp_7]
      unfold s_Game_countUp_7_b
      rw [if_pos (show nI 0 + (-1) < 0 by decide)]
    | succ r ih =>
      intro nn σ hr hn G hlo hhi
      obtain ⟨nn, rfl⟩ : ∃ q, nn = q + 1 := ⟨nn - 1, by omega⟩
      have er : nI (r + 1) + (-1) = nI r := by rw [nI_prd (by omega), Nat.add_sub_cancel]
      have d4 := dgt_4 (sz := hs.length) (N := N) (k := r)
      have run : s_Game_countUp_7 (nn + 1) (nI (r + 1) + (-1)) σ = if 4 < dgt hs.length N r + 1 then s_Game_countUp_7 nn (nI r + (-1)) (stI (stI σ 79 r (nI (dgt hs.length N r + 1))) 79 r 0) else some (1, stI σ 79 r (nI (dgt hs.length N r + 1))) := by
        rw [er, s_Game_countUp_7]
        unfold s_Game_countUp_7_b
        simp only [if_pos (ib_nI (show r < 4 by omega) (show 4 < 2 ^ 31 by omega)), nI_clamp (show r < 2 ^ 31 by omega)]
        rw [if_neg (nI_pos (by omega)), hlo r (by omega), nI_1, xl_so, stI_e, if_pos rfl, xl_so, xl_so]
        by_cases q : 4 < dgt hs.length N r + 1
        · rw [if_pos q, if_pos (show (4 : Int32) < nI (dgt hs.length N r + 1) from nI_lt (a := 4) q (by omega))]
        · rw [if_neg q, if_neg (show ¬ (4 : Int32) < nI (dgt hs.length N r + 1) from nI_nlt (a := 4) (b := dgt hs.length N r + 1) (by omega) (by omega))]
      by_cases q : 4 < dgt hs.length N r + 1
      · rw [if_pos q] at run
        obtain ⟨σ', a1, a2⟩ := ih nn _ (by omega) (by omega) (SGc.num (i := r) (v := 0) (G.num (i := r) (v := nI (dgt hs.length N r + 1)))) (fun j hj => by rw [stI_e, if_neg (by omega), stI_e, if_neg (by omega)]; exact hlo j (by omega)) (fun j h1 h2 => by
          rw [stI_e]
          by_cases y : j = r
          · rw [if_pos y, y]
            exact ⟨rfl, by omega⟩
          · rw [if_neg y, stI_e, if_neg y]
            exact hhi j (by omega) h2)
        rw [run]
        exact ⟨σ', a1, a2⟩
      · rw [if_neg q] at run
        obtain ⟨b1, b2⟩ := cup_ok (sz := hs.length) (N := N) (r := r) (by omega) hN (by omega) (fun j h1 h2 => (hhi j (by omega) h2).2) (by omega)
        refine ⟨_, G.num, Or.inl ⟨b1, run, fun j hj => ?_⟩⟩
        rw [stI_e, b2 j hj]
        by_cases y : j = r
        · rw [if_pos y, if_neg (by omega), if_pos y]
        · rw [if_neg y]
          by_cases y2 : j < r
          · rw [if_pos y2]; exact hlo j (by omega)
          · rw [if_neg y2, if_neg y]; exact (hhi j (by omega) hj).1
  have := main hs.length FUEL σ (by omega) (by unfold FUEL; omega) G (fun j hj => hD j hj) (fun j h1 h2 => by omega)
  obtain ⟨σ', a1, a2⟩ := this
  have e : s_Game_countUp σ = s_Game_countUp_7 FUEL (nI hs.length + (-1)) σ := by
    unfold s_Game_countUp
    rw [xl_so, G.1.1, Int32.sub_eq_add_neg]
  rw [e]
  exact ⟨σ', a1, a2⟩
theorem rowN_lt {N : Nat} : ∀ r k a e, a < 10 ^ e → rowN sz N r k a < 10 ^ (e + r) := by
  intro r
  induction r with
  | zero => intro k a e h; exact h
  | succ r ih =>
    intro k a e h
    have d4 := dgt_4 (sz := sz) (N := N) (k := k)
    have := ih (k + 1) (a * 10 + dgt sz N k) (e + 1) (by rw [Nat.pow_succ]; omega)
    rw [show e + (r + 1) = e + 1 + r by omega]
    exact this
theorem s_row {N : Nat} (h4 : hs.length ≤ 4) (G : SGc σ0 τ0 hs qn σ) (hD : NDc σ hs.length N) : s_Game_row σ = some (nI (rowN hs.length N hs.length 0 0), σ) := by
  have main : ∀ (r nn k a : Nat), k + r = hs.length → r < nn → s_Game_row_4 nn (nI a) (nI k) σ = some (nI (rowN hs.length N r k a), σ) := by
    intro r
    induction r with
    | zero =>
      intro nn k a hk hn
      obtain ⟨nn, rfl⟩ : ∃ q, nn = q + 1 := ⟨nn - 1, by omega⟩
      rw [s_Game_row_4]
      unfold s_Game_row_4_b
      rw [G.1.1, if_pos (nI_le (by omega) (by omega))]
      rfl
    | succ r ih =>
      intro nn k a hk hn
      obtain ⟨nn, rfl⟩ : ∃ q, nn = q + 1 := ⟨nn - 1, by omega⟩
      rw [s_Game_row_4]
      unfold s_Game_row_4_b
      rw [G.1.1, if_neg (nI_ge (by omega) (by omega)), if_pos (ib_nI (show k < 4 by omega) (by omega)), nI_clamp (show k < 2 ^ 31 by omega), hD k (by omega), show (10 : Int32) = nI 10 from rfl, pk_mul, nI_add, xl_so, xl_so, nI_1]
      exact ih nn (k + 1) _ (by omega) (by omega)
  unfold s_Game_row
  have := main hs.length FUEL 0 0 (by omega) (by unfold FUEL; omega)
  rw [nI_0] at this
  exact this
theorem s_loop (h1 : 1 ≤ hs.length) (h4 : hs.length ≤ 4) (hP : ∀ i, i < hs.length → hs.getD i 0 < 8) : ∀ (m nn N cnt : Nat) (σ : LH), N + m + 1 = 5 ^ hs.length → m + 1 < nn → SGc σ0 τ0 hs qn σ → NDc σ hs.length N → ∃ σ', s_Game_findRests_78 c i nn (nI cnt) 1 (nI N) σ = some (rsF τ0 hs qn c i (m + 1) N cnt, σ') ∧ FR scC σ0 σ' ∧ σ'.1 38 2 = 1023 ∧ σ'.1 38 3 = -1 := by
  have h625 : 5 ^ hs.length ≤ 625 := by
    have := Nat.pow_le_pow_right (n := 5) (by omega) h4
    omega
  intro m
  induction m with
  | zero =>
    intro nn N cnt σ hN hn G hD
    obtain ⟨nn, rfl⟩ : ∃ q, nn = q + 1 := ⟨nn - 1, by omega⟩
    obtain ⟨nn, rfl⟩ : ∃ q, nn = q + 1 := ⟨nn - 1, by omega⟩
    obtain ⟨σ1, y, a1, a2, a3, a4, a5⟩ := s_isRest (c := c) h4 hP (by omega) G hD
    obtain ⟨σ2, b1, b2⟩ := s_up h1 h4 (by omega) a3 a4
    have b3 : s_Game_countUp σ1 = some (0, σ2) := by
      rcases b2 with ⟨z, _⟩ | ⟨_, z⟩
      · omega
      · exact z
    have last : ∀ cnt', s_Game_findRests_78 c i (nn + 1) (nI cnt') 0 (nI (N + 1)) σ2 = some (if i = -1 then nI cnt' else -1, σ2) := fun cnt' => by
      rw [s_Game_findRests_78]
      unfold s_Game_findRests_78_b s_Game_findRests_124 s_Game_findRests_134
      rw [if_pos rfl]
      by_cases z : i = -1
      · rw [if_pos z, if_pos z]
      · rw [if_neg z, if_neg z]
    rw [s_Game_findRests_78]
    unfold s_Game_findRests_78_b s_Game_findRests_112 rsF
    rw [if_neg (show ¬ (1 : Int32) = 0 by decide), if_neg (show ¬ (1000 : Int32) ≤ nI N from nI_ge (b := 1000) (by omega) (by omega)), a5, xb2_so, b3, xb2_so, xl_so, xl_so, xb2_so, xl_so, nI_1, nI_1]
    by_cases q : isR τ0 hs qn c N
    · rw [if_pos q, if_neg (show ¬ y = 0 by rw [a2.mpr q]; decide)]
      by_cases q2 : nI cnt = i
      · rw [if_pos q2, if_pos q2, s_row h4 a3 a4, xb2_so]
        exact ⟨σ1, rfl, a3.2.2.2⟩
      · rw [if_neg q2, if_neg q2, last]
        exact ⟨σ2, rfl, b1.2.2.2⟩
    · have y0 : y = 0 := by
        rcases a1 with z | z
        · exact z
        · exact absurd (a2.mp z) q
      rw [if_neg q, if_pos y0, last]
      exact ⟨σ2, rfl, b1.2.2.2⟩
  | succ m ih =>
    intro nn N cnt σ hN hn G hD
    obtain ⟨nn, rfl⟩ : ∃ q, nn = q + 1 := ⟨nn - 1, by omega⟩
    obtain ⟨σ1, y, a1, a2, a3, a4, a5⟩ := s_isRest (c := c) h4 hP (by omega) G hD
    obtain ⟨σ2, b1, b2⟩ := s_up h1 h4 (by omega) a3 a4
    obtain ⟨b3, b4⟩ : s_Game_countUp σ1 = some (1, σ2) ∧ NDc σ2 hs.length (N + 1) := by
      rcases b2 with ⟨_, z⟩ | ⟨z, _⟩
      · exact z
      · omega
    rw [s_Game_findRests_78]
    unfold s_Game_findRests_78_b s_Game_findRests_112 rsF
    rw [if_neg (show ¬ (1 : Int32) = 0 by decide), if_neg (show ¬ (1000 : Int32) ≤ nI N from nI_ge (b := 1000) (by omega) (by omega)), a5, xb2_so, b3, xb2_so, xl_so, xl_so, xb2_so, xl_so, nI_1, nI_1]
    by_cases q : isR τ0 hs qn c N
    · rw [if_pos q, if_neg (show ¬ y = 0 by rw [a2.mpr q]; decide)]
      by_cases q2 : nI cnt = i
      · rw [if_pos q2, if_pos q2, s_row h4 a3 a4, xb2_so]
        exact ⟨σ1, rfl, a3.2.2.2⟩
      · rw [if_neg q2, if_neg q2]
        exact ih nn (N + 1) (cnt + 1) σ2 (by omega) (by omega) b1 b4
    · have y0 : y = 0 := by
        rcases a1 with z | z
        · exact z
        · exact absurd (a2.mp z) q
      rw [if_neg q, if_pos y0]
      exact ih nn (N + 1) cnt σ2 (by omega) (by omega) b1 b4
theorem s_zero (h1 : 1 ≤ hs.length) (h4 : hs.length ≤ 4) (hP : ∀ i, i < hs.length → hs.getD i 0 < 8) (G : SGc σ0 τ0 hs qn σ) : ∃ σ', s_Game_findRests_49 c i FUEL 0 σ = some (rsF τ0 hs qn c i (5 ^ hs.length) 0 0, σ') ∧ FR scC σ0 σ' ∧ σ'.1 38 2 = 1023 ∧ σ'.1 38 3 = -1 := by
  have hpow : 0 < 5 ^ hs.length := Nat.pow_pos (by omega)
  have main : ∀ (r nn k : Nat) (σ : LH), k + r = hs.length → r < nn → SGc σ0 τ0 hs qn σ → (∀ j, j < k → σ.1 79 j = 0) → ∃ σ', s_Game_findRests_49 c i nn (nI k) σ = some (rsF τ0 hs qn c i (5 ^ hs.length) 0 0, σ') ∧ FR scC σ0 σ' ∧ σ'.1 38 2 = 1023 ∧ σ'.1 38 3 = -1 := by
    intro r
    induction r with
    | zero =>
      intro nn k σ hk hn G h0
      obtain ⟨nn, rfl⟩ : ∃ q, nn = q + 1 := ⟨nn - 1, by omega⟩
      have hD : NDc σ hs.length 0 := fun j hj => by
        rw [h0 j (by omega)]
        unfold dgt
        rw [Nat.zero_div, Nat.zero_mod]
        rfl
      obtain ⟨m, hm⟩ : ∃ m, 5 ^ hs.length = m + 1 := ⟨5 ^ hs.length - 1, by omega⟩
      have h625 : 5 ^ hs.length ≤ 625 := by
        have := Nat.pow_le_pow_right (n := 5) (by omega) h4
        omega
      obtain ⟨σ', a1, a2⟩ := s_loop (c := c) (i := i) h1 h4 hP m FUEL 0 0 σ (by omega) (by unfold FUEL; omega) G hD
      refine ⟨σ', ?_, a2⟩
      rw [s_Game_findRests_49]
      unfold s_Game_findRests_49_b
      rw [G.1.1, if_pos (nI_le (by omega) (by omega)), hm]
      rw [nI_0] at a1
      exact a1
    | succ r ih =>
      intro nn k σ hk hn G h0
      obtain ⟨nn, rfl⟩ : ∃ q, nn = q + 1 := ⟨nn - 1, by omega⟩
      obtain ⟨σ', a1, a2⟩ := ih nn (k + 1) (stI σ 79 k 0) (by omega) (by omega) G.num (fun j hj => by
        rw [stI_e]
        by_cases q : j = k
        · rw [if_pos q]
        · rw [if_neg q]; exact h0 j (by omega))
      refine ⟨σ', ?_, a2⟩
      rw [s_Game_findRests_49]
      unfold s_Game_findRests_49_b
      rw [G.1.1, if_neg (nI_ge (by omega) (by omega)), if_pos (ib_nI (show k < 4 by omega) (by omega)), nI_clamp (show k < 2 ^ 31 by omega), xl_so, xl_so, nI_1]
      exact a1
  have := main hs.length FUEL 0 σ (by omega) (by unfold FUEL; omega) G (fun j hj => by omega)
  rw [nI_0] at this
  exact this
end
