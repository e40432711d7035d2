/-! games of waiting that rest: rows by their numbers -/
def dgt (sz N k : Nat) : Nat := N / 5 ^ (sz - 1 - k) % 5
def sdg (sz N k v : Nat) : Nat := N - dgt sz N k * 5 ^ (sz - 1 - k) + v * 5 ^ (sz - 1 - k)
theorem all_r {n : Nat} {f : Nat → Bool} (h : (List.range n).all f = true) : ∀ i, i < n → f i = true := fun i hi => List.all_eq_true.mp h i (List.mem_range.mpr hi)
theorem nbeq_no {a b : Nat} (h : ¬ a = b) : Nat.beq a b = false := by
  cases e : Nat.beq a b with
  | false => rfl
  | true => exact absurd (Nat.eq_of_beq_eq_true e) h
def sdB (sz N k v : Nat) : Bool := Nat.blt (sdg sz N k v) (5 ^ sz) && (Nat.ble (dgt sz N k * 5 ^ (sz - 1 - k)) N && (List.range sz).all fun j => Nat.beq (dgt sz (sdg sz N k v) j) (bif Nat.beq j k then v else dgt sz N j))
theorem sd_all : ((List.range 5).all fun sz => (List.range (5 ^ sz)).all fun N => (List.range sz).all fun k => (List.range 5).all fun v => sdB sz N k v) = true := by decide +kernel
theorem sdg_ok {sz N k v : Nat} (h1 : sz < 5) (h2 : N < 5 ^ sz) (h3 : k < sz) (h4 : v < 5) : sdg sz N k v < 5 ^ sz ∧ dgt sz N k * 5 ^ (sz - 1 - k) ≤ N ∧ ∀ j, j < sz → dgt sz (sdg sz N k v) j = if j = k then v else dgt sz N j := by
  have h := all_r (all_r (all_r (all_r sd_all sz h1) N h2) k h3) v h4
  unfold sdB at h
  rw [Bool.and_eq_true, Bool.and_eq_true] at h
  refine ⟨Nat.blt_eq.mp h.1, Nat.ble_eq.mp h.2.1, fun j hj => ?_⟩
  have hj2 := Nat.eq_of_beq_eq_true (all_r h.2.2 j hj)
  rw [hj2]
  by_cases q : j = k
  · rw [if_pos q, q, Nat.beq_refl]; rfl
  · rw [if_neg q, nbeq_no q]; rfl
def cuB (sz N r : Nat) : Bool := ((List.range sz).all fun j => Nat.ble j r || Nat.beq (dgt sz N j) 4) && Nat.blt (dgt sz N r) 4
def cvB (sz N r : Nat) : Bool := Nat.blt (N + 1) (5 ^ sz) && (List.range sz).all fun j => Nat.beq (dgt sz (N + 1) j) (bif Nat.blt j r then dgt sz N j else bif Nat.beq j r then dgt sz N r + 1 else 0)
theorem cu_all : ((List.range 5).all fun sz => (List.range (5 ^ sz)).all fun N => (List.range sz).all fun r => !cuB sz N r || cvB sz N r) = true := by decide +kernel
theorem cup_ok {sz N r : Nat} (h1 : sz < 5) (h2 : N < 5 ^ sz) (h3 : r < sz) (h4 : ∀ j, r < j → j < sz → dgt sz N j = 4) (h5 : dgt sz N r < 4) : N + 1 < 5 ^ sz ∧ ∀ j, j < sz → dgt sz (N + 1) j = if j < r then dgt sz N j else if j = r then dgt sz N r + 1 else 0 := by
  have h := all_r (all_r (all_r cu_all sz h1) N h2) r h3
  have c : cuB sz N r = true := by
    unfold cuB
    rw [Bool.and_eq_true]
    refine ⟨List.all_eq_true.mpr fun j hj => ?_, Nat.blt_eq.mpr h5⟩
    rw [List.mem_range] at hj
    rw [Bool.or_eq_true]
    by_cases q : j ≤ r
    · exact Or.inl (Nat.ble_eq.mpr q)
    · exact Or.inr (by rw [h4 j (by omega) hj]; rfl)
  rw [c] at h
  have h' : cvB sz N r = true := by simpa using h
  unfold cvB at h'
  rw [Bool.and_eq_true] at h'
  refine ⟨Nat.blt_eq.mp h'.1, fun j hj => ?_⟩
  have hj2 := Nat.eq_of_beq_eq_true (all_r h'.2 j hj)
  rw [hj2]
  by_cases q : j < r
  · rw [if_pos q, Nat.blt_eq.mpr q]; rfl
  · rw [if_neg q]
    have : Nat.blt j r = false := by
      cases e : Nat.blt j r with
      | false => rfl
      | true => exact absurd (Nat.blt_eq.mp e) q
    rw [this]
    by_cases q2 : j = r
    · rw [if_pos q2, q2, Nat.beq_refl]; rfl
    · rw [if_neg q2, nbeq_no q2]; rfl
theorem ce_all : ((List.range 5).all fun sz => (List.range (5 ^ sz)).all fun N => !((List.range sz).all fun j => Nat.beq (dgt sz N j) 4) || Nat.beq (N + 1) (5 ^ sz)) = true := by decide +kernel
theorem cup_end {sz N : Nat} (h1 : sz < 5) (h2 : N < 5 ^ sz) (h : ∀ j, j < sz → dgt sz N j = 4) : N + 1 = 5 ^ sz := by
  have a := all_r (all_r ce_all sz h1) N h2
  have c : ((List.range sz).all fun j => Nat.beq (dgt sz N j) 4) = true := List.all_eq_true.mpr fun j hj => by
    rw [h j (List.mem_range.mp hj)]; rfl
  rw [c] at a
  exact Nat.eq_of_beq_eq_true (by simpa using a)

theorem dgt_4 {sz N k : Nat} : dgt sz N k ≤ 4 := by
  have : dgt sz N k < 5 := Nat.mod_lt _ (by omega)
  omega
theorem LSn_cg {nm nm' : Nat → Nat} : ∀ m, (∀ k, k < m → nm k = nm' k) → LSn nm m = LSn nm' m := by
  intro m
  induction m with
  | zero => intro _; rfl
  | succ m ih =>
    intro h
    unfold LSn
    rw [ih (fun k hk => h k (by omega)), h m (by omega)]
theorem SCn_cg {nm nm' qk : Nat → Nat} {th : Nat} : ∀ m, (∀ k, k < m → nm k = nm' k) → SCn nm qk th m = SCn nm' qk th m := by
  intro m
  induction m with
  | zero => intro _; rfl
  | succ m ih =>
    intro h
    unfold SCn
    rw [ih (fun k hk => h k (by omega)), h m (by omega)]
theorem WMn_cg {nm nm' qk : Nat → Nat} {m : Nat} (h : ∀ k, k < m → nm k = nm' k) : WMn nm qk m = WMn nm' qk m := by
  unfold WMn
  rw [LSn_cg m h, SCn_cg m h]
/-- what the row of a number gains one -/
def gN (τ0 : LH) (hs : List Nat) (qn : Nat → Nat) (c : Int32) (N k : Nat) : Int32 := Jv τ0 ((WMn (dgt hs.length N) (fun k => qn (hs.getD k 0)) hs.length).map fun g => hs.getD g 0) (LSn (dgt hs.length N) hs.length) (hs.getD k 0) - c * nI (LSn (dgt hs.length N) hs.length)
/-- it rests -/
def isR (τ0 : LH) (hs : List Nat) (qn : Nat → Nat) (c : Int32) (N : Nat) : Prop := ∀ k, k < hs.length → ∀ v, v < 5 → gN τ0 hs qn c (sdg hs.length N k v) k ≤ gN τ0 hs qn c N k
/-- a row's digits, as a number told -/
def rowN (sz N : Nat) : Nat → Nat → Nat → Nat
  | 0, _, a => a
  | r + 1, k, a => rowN sz N r (k + 1) (a * 10 + dgt sz N k)
section
variable {I : LH → Prop} {σ τ σ' τ' σ0 τ0 : LH} {S P n0 n E mm M sz : Nat} {go : Nat → Nat} {L : Nat → Nat → Nat → Int32} {ln : Nat → Nat → Nat → Nat} {qn sn nm qk : Nat → Nat} {hs : List Nat} {c : Int32}
/-- the joys of every outcome stand in the class -/
def TBc (τ0 : LH) (hs : List Nat) (σ : LH) : Prop := ∀ wh ls o, OC hs wh ls o → ∀ k, k < hs.length → σ.1 80 (4 * o + k) = Jv τ0 wh ls (hs.getD k 0)
/-- the state of the class while rows are gone through -/
def SGc (σ0 τ0 : LH) (hs : List Nat) (qn : Nat → Nat) (σ : LH) : Prop := GAc σ hs ∧ TBc τ0 hs σ ∧ (∀ k, k < hs.length → σ.1 9 (hs.getD k 0) = nI (qn (hs.getD k 0)) ∧ qn (hs.getD k 0) < 100) ∧ FR scC σ0 σ ∧ σ.1 38 2 = 1023 ∧ σ.1 38 3 = -1
def NDc (σ : LH) (sz N : Nat) : Prop := ∀ k, k < sz → σ.1 79 k = nI (dgt sz N k)
theorem SGc.num (h : SGc σ0 τ0 hs qn σ) {i : Nat} {v : Int32} : SGc σ0 τ0 hs qn (stI σ 79 i v) := by
  obtain ⟨⟨h1, h2⟩, h3, h4, h5, h6, h7⟩ := h
  refine ⟨⟨by rw [stI_n (by omega)]; exact h1, fun i hi => by rw [stI_n (by omega)]; exact h2 i hi⟩, fun wh ls o hO k hk => by rw [stI_n (by omega)]; exact h3 wh ls o hO k hk, fun k hk => by rw [stI_n (by omega)]; exact h4 k hk, h5.tr (FR.I (by unfold scC; omega)), by rw [stI_n (by omega)]; exact h6, by rw [stI_n (by omega)]; exact h7⟩
theorem oc_OC : OC hs ((WMn nm qk hs.length).map fun g => hs.getD g 0) (LSn nm hs.length) (ocn nm qk hs.length) := by
  rcases ocn_WM (nm := nm) (qk := qk) (sz := hs.length) with ⟨z1, z2, z3⟩ | ⟨g, z1, z2, z3, z4⟩
  · exact Or.inl ⟨by rw [z1]; rfl, z2, z3⟩
  · exact Or.inr ⟨g, z2, by rw [z1]; rfl, z3, z4⟩
theorem s_gain {N k : Nat} (h : SGc σ0 τ0 hs qn σ) (h4 : hs.length ≤ 4) (hP : ∀ i, i < hs.length → hs.getD i 0 < 8) (hN : NDc σ hs.length N) (hk : k < hs.length) : s_Game_gain (nI k) c σ = some (gN τ0 hs qn c N k, σ) := by
  obtain ⟨G, T, Q, -⟩ := h
  rw [c_gain (nm := dgt hs.length N) (qk := fun k => qn (hs.getD k 0)) G h4 (fun k hk => ⟨hN k hk, dgt_4⟩) hP Q (by omega), T _ _ _ oc_OC k hk]
  rfl
/-- all outcomes gone through -/
theorem s_tries {i : Int32} (hD : Idep I) (hL : LKok I P S L) (X : QX I σ0 τ0 S P n0 n E go L ln qn sn mm M) (h4 : hs.length ≤ 4) (hP : ∀ i, i < hs.length → hs.getD i 0 < P) : ∀ (r nn ls : Nat) (σ : LH), ls + r = 4 → r < nn → GAc σ hs → FR scC σ0 σ → σ.1 38 2 = 1023 → σ.1 38 3 = -1 → (∀ b, b = 9 → σ.1 b = σ0.1 b) → (∀ l g, l < ls → g < hs.length → ∀ k, k < hs.length → σ.1 80 (4 * (4 * l + g) + k) = Jv τ0 (some (hs.getD g 0)) l (hs.getD k 0)) → ∃ σ', s_Game_findRests_2 c i nn (nI ls) σ = s_Game_findRests_49 c i FUEL 0 σ' ∧ SGc σ0 τ0 hs qn σ' := by
  have hP8 := X.P8
  intro r
  induction r with
  | zero =>
    intro nn ls σ hr hn G hf h2 h3 h9 hJ
    obtain ⟨nn, rfl⟩ : ∃ q, nn = q + 1 := ⟨nn - 1, by omega⟩
    have hl4 : ls = 4 := by omega
    subst hl4
    obtain ⟨σ', c1, c2, c3, c4, c5, c6, c7⟩ := c_tryOut (o := 16) (wh := none) (ls := 4) hD hL X (Or.inl ⟨rfl, rfl, rfl⟩) G h4 hP hf h2 h3
    refine ⟨σ', ?_, ⟨⟨by rw [c7 68 (by omega) (by omega) (by omega)]; exact G.1, fun i hi => by rw [c7 78 (by omega) (by omega) (by omega)]; exact G.2 i hi⟩, fun wh ls o hO k hk => ?_, fun k hk => ?_, c4, c5, c6⟩⟩
    · rw [s_Game_findRests_2]
      unfold s_Game_findRests_2_b
      rw [if_pos (show (4 : Int32) ≤ nI 4 by decide), show (16 : Int32) = nI 16 from rfl, c1, xb1_so]
    · rcases hO with ⟨e1, e2, e3⟩ | ⟨g, g1, e1, e2, e3⟩
      · subst e1; subst e2; subst e3
        exact c2 k hk
      · subst e1; subst e3
        rw [c3 _ (by omega)]
        exact hJ ls g e2 g1 k hk
    · have z := X.q9 (hP k hk)
      rw [c7 9 (by omega) (by omega) (by omega), h9 9 rfl]
      exact ⟨z.1, by omega⟩
  | succ r ih =>
    intro nn ls σ hr hn G hf h2 h3 h9 hJ
    obtain ⟨nn, rfl⟩ : ∃ q, nn = q + 1 := ⟨nn - 1, by omega⟩
    have inn : ∀ (r2 n2 g : Nat) (σ : LH), g + r2 = hs.length → r2 < n2 → GAc σ hs → FR scC σ0 σ → σ.1 38 2 = 1023 → σ.1 38 3 = -1 → (∀ b, b = 9 → σ.1 b = σ0.1 b) → (∀ l g', (l < ls ∨ (l = ls ∧ g' < g)) → g' < hs.length → ∀ k, k < hs.length → σ.1 80 (4 * (4 * l + g') + k) = Jv τ0 (some (hs.getD g' 0)) l (hs.getD k 0)) → ∃ σ', s_Game_findRests_10 c i (s_Game_findRests_2 c i nn) n2 (nI ls) (nI g) σ = s_Game_findRests_49 c i FUEL 0 σ' ∧ SGc σ0 τ0 hs qn σ' := by
      intro r2
      induction r2 with
      | zero =>
        intro n2 g σ hg hn2 G hf h2 h3 h9 hJ
        obtain ⟨n2, rfl⟩ : ∃ q, n2 = q + 1 := ⟨n2 - 1, by omega⟩
        obtain ⟨σ', a1, a2⟩ := ih nn (ls + 1) σ (by omega) (by omega) G hf h2 h3 h9 (fun l g' hl hg' k hk => hJ l g' (by omega) hg' k hk)
        refine ⟨σ', ?_, a2⟩
        rw [s_Game_findRests_10]
        unfold s_Game_findRests_10_b
        rw [G.1, if_pos (nI_le (by omega) (by omega)), xl_so, nI_1]
        exact a1
      | succ r2 ih2 =>
        intro n2 g σ hg hn2 G hf h2 h3 h9 hJ
        obtain ⟨n2, rfl⟩ : ∃ q, n2 = q + 1 := ⟨n2 - 1, by omega⟩
        have hgl : g < hs.length := by omega
        obtain ⟨σ1, c1, c2, c3, c4, c5, c6, c7⟩ := c_tryOut (o := 4 * ls + g) (wh := some (hs.getD g 0)) (ls := ls) hD hL X (Or.inr ⟨g, hgl, rfl, by omega, rfl⟩) G h4 hP hf h2 h3
        obtain ⟨σ', a1, a2⟩ := ih2 n2 (g + 1) σ1 (by omega) (by omega) ⟨by rw [c7 68 (by omega) (by omega) (by omega)]; exact G.1, fun i hi => by rw [c7 78 (by omega) (by omega) (by omega)]; exact G.2 i hi⟩ c4 c5 c6 (fun b hb => by subst hb; rw [c7 9 (by omega) (by omega) (by omega)]; exact h9 9 rfl) (fun l g' hl hg' k hk => by
          by_cases q : l = ls ∧ g' = g
          · rw [q.1, q.2]
            exact c2 k hk
          · rw [c3 _ (by omega)]
            exact hJ l g' (by omega) hg' k hk)
        refine ⟨σ', ?_, a2⟩
        rw [s_Game_findRests_10]
        unfold s_Game_findRests_10_b
        rw [G.1, if_neg (nI_ge (by omega) (by omega)), show (4 : Int32) = nI 4 from rfl, pk_mul, nI_add, Nat.mul_comm ls 4, c1, xb1_so, xl_so, nI_1]
        exact a1
    obtain ⟨σ', a1, a2⟩ := inn hs.length FUEL 0 σ (by omega) (by unfold FUEL; omega) G hf h2 h3 h9 (fun l g' hl hg' k hk => hJ l g' (by omega) hg' k hk)
    refine ⟨σ', ?_, a2⟩
    rw [s_Game_findRests_2]
    unfold s_Game_findRests_2_b
    rw [if_neg (show ¬ (4 : Int32) ≤ nI ls from nI_ge (b := 4) (by omega) (by omega)), ← nI_0]
    rw [nI_0] at a1 ⊢
    exact a1
end
