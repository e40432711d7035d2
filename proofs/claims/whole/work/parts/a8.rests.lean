/-! games of waiting that rest: the model -/
section
variable {I : LH → Prop} {σ τ σ' τ' σ0 τ0 : LH} {S P n0 n E mm M sz : Nat} {go : Nat → Nat} {L : Nat → Nat → Nat → Int32} {ln : Nat → Nat → Nat → Nat} {qn sn : Nat → Nat} {hs : List Nat} {c i : Int32}
theorem m_power {e : Nat} (he : e ≤ 4) : s_Model_power 5 (nI e) τ = some (nI (5 ^ e), τ) := by
  have main : ∀ (r nn j : Nat), j + r = e → r < nn → s_Model_power_4 5 (nI e) nn (nI (5 ^ j)) (nI j) τ = some (nI (5 ^ e), τ) := by
    intro r
    induction r with
    | zero =>
      intro nn j hj hn
      obtain ⟨nn, rfl⟩ : ∃ q, nn = q + 1 := ⟨nn - 1, by omega⟩
      have : j = e := by omega
      subst this
      rw [s_Model_power_4]
      unfold s_Model_power_4_b
      rw [if_pos (nI_le (by omega) (by omega))]
    | succ r ih =>
      intro nn j hj hn
      obtain ⟨nn, rfl⟩ : ∃ q, nn = q + 1 := ⟨nn - 1, by omega⟩
      rw [s_Model_power_4]
      unfold s_Model_power_4_b
      rw [if_neg (nI_ge (by omega) (by omega)), xl_so, xl_so, show (5 : Int32) = nI 5 from rfl, pk_mul, nI_1, ← Nat.pow_succ]
      exact ih nn (j + 1) (by omega) (by omega)
  unfold s_Model_power
  exact main e FUEL 0 (by omega) (by unfold FUEL; omega)
theorem p625 {sz : Nat} (h : sz ≤ 4) : 5 ^ sz ≤ 625 ∧ 0 < 5 ^ sz := by
  have := Nat.pow_le_pow_right (n := 5) (by omega) h
  exact ⟨by omega, Nat.pow_pos (by omega)⟩
theorem m_sub {k : Nat} (hk : k < sz) (h4 : sz ≤ 4) : nI sz - 1 - nI k = nI (sz - 1 - k) := by
  rw [show (1 : Int32) = nI 1 from rfl, pk_sub (by omega), pk_sub (by omega)]
theorem m_digit {N k : Nat} (h51 : τ.1 570 51 = nI sz) (h4 : sz ≤ 4) (hk : k < sz) (hN : N < 5 ^ sz) : s_Model_digitOf (nI N) (nI k) τ = some (nI (dgt sz N k), τ) := by
  have := p625 h4
  have s1 := p625 (sz := sz - 1 - k) (by omega)
  unfold s_Model_digitOf
  rw [h51, m_sub hk h4, m_power (by omega), xb2_so, if_pos (show ¬ nI (5 ^ (sz - 1 - k)) = 0 from fun z => by have := nI_ij (b := 0) (by omega) (by omega) z; omega), pk_div (by omega) s1.2 (by omega)]
  have hx : N / 5 ^ (sz - 1 - k) ≤ N := Nat.div_le_self _ _
  unfold dgt
  generalize N / 5 ^ (sz - 1 - k) = x at *
  rw [show (5 : Int32) = nI 5 from rfl, pk_div (by omega) (by omega) (by omega), pk_mul, pk_sub (by omega)]
  have e : x - x / 5 * 5 = x % 5 := by omega
  rw [e]
/-- the model's state while rows are laid out -/
def SGm (I : LH → Prop) (τ0 : LH) (hs : List Nat) (τ : LH) : Prop := GAm τ hs ∧ FT scM τ0 τ ∧ τ.1 570 39 = -1 ∧ τ.1 570 40 = 0 ∧ I τ
theorem FT.s77 (h : FT scM τ τ') : τ'.1 577 = τ.1 577 := funext fun j => h.1 577 j (by unfold scM; omega)
theorem SGm.up (h : SGm I τ0 hs τ) (hD : Idep I) (hf : FR (fun b _ => b = 592 ∨ b = 593) τ τ') : SGm I τ0 hs τ' := by
  obtain ⟨⟨h1, h2⟩, h3, h4, h5, h6⟩ := h
  have fs : FR wSm τ τ' := hf.up (fun b j z => by unfold wSm; omega)
  exact ⟨⟨by rw [hf.1 570 51 (by omega)]; exact h1, fun i hi => by rw [hf.1 591 i (by omega)]; exact h2 i hi⟩, h3.tr fs.fts, by rw [hf.1 570 39 (by omega)]; exact h4, by rw [hf.1 570 40 (by omega)]; exact h5, wSm_I hD fs h6⟩
/-- what each row gains stands in the model -/
def CJm (τ0 : LH) (hs : List Nat) (qn : Nat → Nat) (c : Int32) (τ : LH) (N : Nat) : Prop := ∀ N', N' < N → ∀ k, k < hs.length → τ.1 593 (4 * N' + k) = gN τ0 hs qn c N' k
theorem m_lay16 {N : Nat} {rec2 : Int32 → LH → Option LH} (hD : Idep I) (h4 : hs.length ≤ 4) (hN : N < 5 ^ hs.length) : ∀ (r nn k : Nat) (τ : LH), k + r = hs.length → r < nn → SGm I τ0 hs τ → CJm τ0 hs qn c τ N → (∀ j, j < k → τ.1 592 j = nI (dgt hs.length N j)) → ∃ τ', s_Model_layCalls_16 c rec2 nn (nI N) (nI k) τ = xb2 (s_Model_rings τ') (fun r7 σ8 => s_Model_layCalls_50 c rec2 FUEL (nI N) r7 0 σ8) ∧ SGm I τ0 hs τ' ∧ CJm τ0 hs qn c τ' N ∧ ∀ j, j < hs.length → τ'.1 592 j = nI (dgt hs.length N j) := by
  intro r
  induction r with
  | zero =>
    intro nn k τ hk hn G C hd
    obtain ⟨nn, rfl⟩ : ∃ q, nn = q + 1 := ⟨nn - 1, by omega⟩
    refine ⟨τ, ?_, G, C, fun j hj => hd j (by omega)⟩
    rw [s_Model_layCalls_16]
    unfold s_Model_layCalls_16_b
    rw [G.1.1, if_pos (nI_le (by omega) (by omega))]
  | succ r ih =>
    intro nn k τ hk hn G C hd
    obtain ⟨nn, rfl⟩ : ∃ q, nn = q + 1 := ⟨nn - 1, by omega⟩
    obtain ⟨τ', a1, a2⟩ := ih nn (k + 1) (stI τ 592 k (nI (dgt hs.length N k))) (by omega) (by omega) (G.up hD (FR.I (Or.inl rfl))) (fun N' h1 k' h2 => by rw [stI_n (by omega)]; exact C N' h1 k' h2) (fun j hj => by
      rw [stI_e]
      by_cases q : j = k
      · rw [if_pos q, q]
      · rw [if_neg q]; exact hd j (by omega))
    refine ⟨τ', ?_, a2⟩
    rw [s_Model_layCalls_16]
    unfold s_Model_layCalls_16_b
    rw [G.1.1, if_neg (nI_ge (by omega) (by omega)), m_digit G.1.1 h4 (by omega) hN, xb2_so, if_pos (ib_nI (show k < 8 by omega) (by omega)), nI_clamp (show k < 2 ^ 31 by omega), xl_so, xl_so, nI_1]
    exact a1
theorem m_lay50 {N : Nat} {rec2 : Int32 → LH → Option LH} {rang : Int32} (hD : Idep I) (h4 : hs.length ≤ 4) (hN : N < 5 ^ hs.length) (hP : ∀ i, i < hs.length → hs.getD i 0 < 8) {J : Nat → Int32} : ∀ (r nn k : Nat) (τ : LH), k + r = hs.length → r < nn → SGm I τ0 hs τ → CJm τ0 hs qn c τ N → (∀ j, j < hs.length → τ.1 584 (4 * hs.getD j 0 + 3) - c * rang = gN τ0 hs qn c N j) → (∀ j, j < k → τ.1 593 (4 * N + j) = gN τ0 hs qn c N j) → ∃ τ', s_Model_layCalls_50 c rec2 nn (nI N) rang (nI k) τ = rec2 (nI (N + 1)) τ' ∧ SGm I τ0 hs τ' ∧ CJm τ0 hs qn c τ' (N + 1) := by
  have := p625 h4
  intro r
  induction r with
  | zero =>
    intro nn k τ hk hn G C h84 hd
    obtain ⟨nn, rfl⟩ : ∃ q, nn = q + 1 := ⟨nn - 1, by omega⟩
    refine ⟨τ, ?_, G, fun N' h1 k' h2 => ?_⟩
    · rw [s_Model_layCalls_50]
      unfold s_Model_layCalls_50_b
      rw [G.1.1, if_pos (nI_le (by omega) (by omega)), xl_so, nI_1]
    · by_cases q : N' = N
      · rw [q]; exact hd k' (by omega)
      · exact C N' (by omega) k' h2
  | succ r ih =>
    intro nn k τ hk hn G C h84 hd
    obtain ⟨nn, rfl⟩ : ∃ q, nn = q + 1 := ⟨nn - 1, by omega⟩
    have hp := hP k (by omega)
    obtain ⟨τ', a1, a2⟩ := ih nn (k + 1) (stI τ 593 (4 * N + k) (gN τ0 hs qn c N k)) (by omega) (by omega) (G.up hD (FR.I (Or.inr rfl))) (fun N' h1 k' h2 => by rw [stI_e, if_neg (by omega)]; exact C N' h1 k' h2) (fun j hj => by rw [stI_n (by omega)]; exact h84 j hj) (fun j hj => by
      rw [stI_e]
      by_cases q : j = k
      · rw [if_pos (by omega), q]
      · rw [if_neg (by omega)]; exact hd j (by omega))
    refine ⟨τ', ?_, a2⟩
    rw [s_Model_layCalls_50]
    unfold s_Model_layCalls_50_b
    rw [G.1.1, if_neg (nI_ge (by omega) (by omega)), if_pos (ib_nI (show k < 8 by omega) (by omega)), nI_clamp (show k < 2 ^ 31 by omega), G.1.2 k (by omega), c4, c4, a3, nI_add, if_pos (ib_nI (show 4 * hs.getD k 0 + 3 < 290 by omega) (by omega)), if_pos (ib_nI (show 4 * N + k < 2500 by omega) (by omega)), nI_clamp (show 4 * hs.getD k 0 + 3 < 2 ^ 31 by omega), nI_clamp (show 4 * N + k < 2 ^ 31 by omega), h84 k (by omega), xl_so, xl_so, nI_1]
    exact a1
theorem m_lays (hD : Idep I) (hL : LKok I P S L) (X : QX I σ0 τ0 S P n0 n E go L ln qn sn mm M) (h1 : 1 ≤ hs.length) (h4 : hs.length ≤ 4) (hP : ∀ i, i < hs.length → hs.getD i 0 < P) : ∀ (r nn N : Nat) (τ : LH), N + r = 5 ^ hs.length → r < nn → SGm I τ0 hs τ → CJm τ0 hs qn c τ N → ∃ τ', s_Model_layCalls_2 c nn (nI N) τ = some τ' ∧ SGm I τ0 hs τ' ∧ CJm τ0 hs qn c τ' (5 ^ hs.length) := by
  have p6 := p625 h4
  have hP8 := X.P8
  intro r
  induction r with
  | zero =>
    intro nn N τ hN hn G C
    obtain ⟨nn, rfl⟩ : ∃ q, nn = q + 1 := ⟨nn - 1, by omega⟩
    refine ⟨τ, ?_, G, ?_⟩
    · rw [s_Model_layCalls_2]
      unfold s_Model_layCalls_2_b
      rw [G.1.1, m_power h4, xb2_so, if_pos (nI_le (by omega) (by omega))]
    · rw [show 5 ^ hs.length = N by omega]; exact C
  | succ r ih =>
    intro nn N τ hN hn G C
    obtain ⟨nn, rfl⟩ : ∃ q, nn = q + 1 := ⟨nn - 1, by omega⟩
    have hNl : N < 5 ^ hs.length := by omega
    obtain ⟨τ1, a1, a2, a3, a4⟩ := m_lay16 (c := c) (qn := qn) (rec2 := s_Model_layCalls_2 c nn) hD h4 hNl hs.length FUEL 0 τ (by omega) (by unfold FUEL; omega) G C (fun j hj => by omega)
    have q7 : ∀ k, k < hs.length → τ1.1 577 (4 * hs.getD k 0 + 1) = nI (qn (hs.getD k 0)) ∧ qn (hs.getD k 0) < 100 := fun k hk => by
      have z := X.q9 (hP k hk)
      rw [a2.2.1.s77]
      exact ⟨z.2.1, by omega⟩
    obtain ⟨τ2, b1, b2, b3, b4, b5, b6, b7, b8⟩ := m_rings (nm := dgt hs.length N) (qk := fun k => qn (hs.getD k 0)) hD hL X a2.1 h4 hP (fun k hk => ⟨a4 k hk, dgt_4⟩) q7 a2.2.1 a2.2.2.1 a2.2.2.2.1 a2.2.2.2.2
    have G2 : SGm I τ0 hs τ2 := ⟨⟨by rw [b8 51 (by omega)]; exact a2.1.1, fun i hi => by rw [b7 591 (by omega)]; exact a2.1.2 i hi⟩, b3, b4, b5, b6⟩
    have C2 : CJm τ0 hs qn c τ2 N := fun N' h1 k' h2 => by rw [b7 593 (by omega)]; exact a3 N' h1 k' h2
    obtain ⟨τ3, d1, d2, d3⟩ := m_lay50 (c := c) (qn := qn) (rec2 := s_Model_layCalls_2 c nn) (rang := nI (LSn (dgt hs.length N) hs.length)) (J := fun _ => 0) hD h4 hNl (fun i hi => by have := hP i hi; omega) hs.length FUEL 0 τ2 (by omega) (by unfold FUEL; omega) G2 C2 (fun j hj => by
      rw [b2 _ (hP j hj)]
      rfl) (fun j hj => by omega)
    obtain ⟨τ4, e1, e2, e3⟩ := ih nn (N + 1) τ3 (by omega) (by omega) d2 d3
    refine ⟨τ4, ?_, e2, e3⟩
    rw [nI_0] at a1 d1
    rw [s_Model_layCalls_2]
    unfold s_Model_layCalls_2_b
    rw [G.1.1, m_power h4, xb2_so, if_neg (nI_ge (by omega) (by omega)), a1, b1, xb2_so, d1]
    exact e1
theorem sd_i {N k v : Nat} (h1 : sz < 5) (h2 : N < 5 ^ sz) (h3 : k < sz) (h4 : v < 5) : nI N + (nI v - nI (dgt sz N k)) * nI (5 ^ (sz - 1 - k)) = nI (sdg sz N k v) := by
  obtain ⟨_, a, _⟩ := sdg_ok h1 h2 h3 h4
  have e : sdg sz N k v + dgt sz N k * 5 ^ (sz - 1 - k) = N + v * 5 ^ (sz - 1 - k) := by
    unfold sdg
    omega
  have e2 : nI (sdg sz N k v) + nI (dgt sz N k) * nI (5 ^ (sz - 1 - k)) = nI N + nI v * nI (5 ^ (sz - 1 - k)) := by
    rw [pk_mul, pk_mul, nI_add, nI_add, e]
  rw [Int32.sub_mul]
  have e3 : nI (sdg sz N k v) = nI N + nI v * nI (5 ^ (sz - 1 - k)) - nI (dgt sz N k) * nI (5 ^ (sz - 1 - k)) := by
    rw [← e2, Int32.add_sub_cancel]
  rw [e3, Int32.sub_eq_add_neg, Int32.sub_eq_add_neg, Int32.add_assoc]
theorem m_rest34 {N k : Nat} {rec2 : Int32 → LH → Option (Int32 × LH)} (h4 : hs.length ≤ 4) (hN : N < 5 ^ hs.length) (hk : k < hs.length) (C : CJm τ0 hs qn c τ (5 ^ hs.length)) : ∀ (r nn v : Nat), v + r = 5 → r < nn → s_Model_isRest_34 (nI N) rec2 nn (nI k) (nI (5 ^ (hs.length - 1 - k))) (nI (dgt hs.length N k)) (nI v) τ = @ite (Option (Int32 × LH)) (∀ w, v ≤ w → w < 5 → gN τ0 hs qn c (sdg hs.length N k w) k ≤ gN τ0 hs qn c N k) (Classical.propDecidable _) (rec2 (nI (k + 1)) τ) (some (0, τ)) := by
  have p6 := p625 h4
  intro r
  induction r with
  | zero =>
    intro nn v hv hn
    obtain ⟨nn, rfl⟩ : ∃ q, nn = q + 1 := ⟨nn - 1, by omega⟩
    rw [s_Model_isRest_34]
    unfold s_Model_isRest_34_b
    rw [if_pos (show (5 : Int32) ≤ nI v from nI_le (a := 5) (by omega) (by omega)), if_pos (fun w h1 h2 => by omega), xl_so, nI_1]
  | succ r ih =>
    intro nn v hv hn
    obtain ⟨nn, rfl⟩ : ∃ q, nn = q + 1 := ⟨nn - 1, by omega⟩
    obtain ⟨s1, _, _⟩ := sdg_ok (sz := hs.length) (N := N) (k := k) (v := v) (by omega) hN hk (by omega)
    rw [s_Model_isRest_34]
    unfold s_Model_isRest_34_b
    rw [if_neg (show ¬ (5 : Int32) ≤ nI v from nI_ge (b := 5) (by omega) (by omega)), sd_i (by omega) hN hk (by omega), c4, c4, nI_add, nI_add, if_pos (ib_nI (show 4 * sdg hs.length N k v + k < 2500 by omega) (by omega)), if_pos (ib_nI (show 4 * N + k < 2500 by omega) (by omega)), nI_clamp (show 4 * sdg hs.length N k v + k < 2 ^ 31 by omega), nI_clamp (show 4 * N + k < 2 ^ 31 by omega), C _ s1 k hk, C N hN k hk, xl_so, nI_1]
    by_cases q : gN τ0 hs qn c (sdg hs.length N k v) k ≤ gN τ0 hs qn c N k
    · rw [if_pos q, ih nn (v + 1) (by omega) (by omega)]
      by_cases z : ∀ w, v + 1 ≤ w → w < 5 → gN τ0 hs qn c (sdg hs.length N k w) k ≤ gN τ0 hs qn c N k
      · rw [if_pos z, if_pos (fun w h1 h2 => by
          by_cases y : w = v
          · rw [y]; exact q
          · exact z w (by omega) h2)]
      · rw [if_neg z, if_neg (fun y => z (fun w h1 h2 => y w (by omega) h2))]
    · rw [if_neg q, if_neg (fun y => q (y v (by omega) (by omega)))]
theorem m_isRest {N : Nat} (h4 : hs.length ≤ 4) (hN : N < 5 ^ hs.length) (h51 : τ.1 570 51 = nI hs.length) (C : CJm τ0 hs qn c τ (5 ^ hs.length)) : s_Model_isRest (nI N) τ = @ite (Option (Int32 × LH)) (isR τ0 hs qn c N) (Classical.propDecidable _) (some (1, τ)) (some (0, τ)) := by
  have main : ∀ (r nn k : Nat), k + r = hs.length → r < nn → (∀ k', k' < k → ∀ v, v < 5 → gN τ0 hs qn c (sdg hs.length N k' v) k' ≤ gN τ0 hs qn c N k') → s_Model_isRest_2 (nI N) nn (nI k) τ = @ite (Option (Int32 × LH)) (isR τ0 hs qn c N) (Classical.propDecidable _) (some (1, τ)) (some (0, τ)) := by
    intro r
    induction r with
    | zero =>
      intro nn k hk hn hq
      obtain ⟨nn, rfl⟩ : ∃ q, nn = q + 1 := ⟨nn - 1, by omega⟩
      rw [s_Model_isRest_2]
      unfold s_Model_isRest_2_b
      rw [h51, if_pos (nI_le (by omega) (by omega)), if_pos (show isR τ0 hs qn c N from fun k' h' => hq k' (by omega))]
    | succ r ih =>
      intro nn k hk hn hq
      obtain ⟨nn, rfl⟩ : ∃ q, nn = q + 1 := ⟨nn - 1, by omega⟩
      have hkl : k < hs.length := by omega
      rw [s_Model_isRest_2]
      unfold s_Model_isRest_2_b
      rw [h51, if_neg (nI_ge (by omega) (by omega)), m_sub hkl h4, m_power (by omega), xb2_so, m_digit h51 h4 hkl hN, xb2_so, ← nI_0, m_rest34 h4 hN hkl C 5 FUEL 0 (by omega) (by unfold FUEL; omega)]
      by_cases z : ∀ w, 0 ≤ w → w < 5 → gN τ0 hs qn c (sdg hs.length N k w) k ≤ gN τ0 hs qn c N k
      · rw [if_pos z]
        exact ih nn (k + 1) (by omega) (by omega) (fun k' h' v hv => by
          by_cases w : k' = k
          · rw [w]; exact z v (by omega) hv
          · exact hq k' (by omega) v hv)
      · rw [if_neg z, if_neg (fun y => z (fun w _ h2 => y k hkl w h2))]
        rfl
  unfold s_Model_isRest
  have := main hs.length FUEL 0 (by omega) (by unfold FUEL; omega) (fun k' h' => by omega)
  rw [nI_0] at this
  exact this
theorem m_rowd {N : Nat} (h4 : hs.length ≤ 4) (hN : N < 5 ^ hs.length) (h51 : τ.1 570 51 = nI hs.length) : ∀ (r nn k a : Nat), k + r = hs.length → r < nn → s_Model_rests_81 c i nn (nI N) (nI a) (nI k) τ = some (nI (rowN hs.length N r k a), τ) := by
  intro r
  induction r with
  | zero =>
    intro nn k a hk hn
    obtain ⟨nn, rfl⟩ : ∃ q, nn = q + 1 := ⟨nn - 1, by omega⟩
    rw [s_Model_rests_81]
    unfold s_Model_rests_81_b
    rw [h51, if_pos (nI_le (by omega) (by omega))]
    rfl
  | succ r ih =>
    intro nn k a hk hn
    obtain ⟨nn, rfl⟩ : ∃ q, nn = q + 1 := ⟨nn - 1, by omega⟩
    rw [s_Model_rests_81]
    unfold s_Model_rests_81_b
    rw [h51, if_neg (nI_ge (by omega) (by omega)), m_digit h51 h4 (by omega) hN, xb2_so, show (10 : Int32) = nI 10 from rfl, pk_mul, nI_add, Nat.mul_comm 10 a, xl_so, xl_so, nI_1]
    exact ih nn (k + 1) _ (by omega) (by omega)
theorem m_loop (h4 : hs.length ≤ 4) (h51 : τ.1 570 51 = nI hs.length) (C : CJm τ0 hs qn c τ (5 ^ hs.length)) : ∀ (m nn N cnt : Nat), N + m = 5 ^ hs.length → m < nn → s_Model_rests_45 c i nn (nI cnt) (nI N) τ = some (rsF τ0 hs qn c i m N cnt, τ) := by
  have p6 := p625 h4
  intro m
  induction m with
  | zero =>
    intro nn N cnt hN hn
    obtain ⟨nn, rfl⟩ : ∃ q, nn = q + 1 := ⟨nn - 1, by omega⟩
    rw [s_Model_rests_45]
    unfold s_Model_rests_45_b s_Model_rests_134 rsF
    rw [h51, m_power h4, xb2_so, if_pos (nI_le (by omega) (by omega))]
    by_cases z : i = -1
    · rw [if_pos z, if_pos z]
    · rw [if_neg z, if_neg z]
  | succ m ih =>
    intro nn N cnt hN hn
    obtain ⟨nn, rfl⟩ : ∃ q, nn = q + 1 := ⟨nn - 1, by omega⟩
    rw [s_Model_rests_45]
    unfold s_Model_rests_45_b s_Model_rests_118 rsF
    rw [h51, m_power h4, xb2_so, if_neg (nI_ge (by omega) (by omega)), m_isRest h4 (by omega) h51 C]
    by_cases q : isR τ0 hs qn c N
    · rw [if_pos q, if_pos q, xb2_so, if_neg (show ¬ (1 : Int32) = 0 by decide)]
      by_cases q2 : nI cnt = i
      · rw [if_pos q2, if_pos q2]
        have := m_rowd (c := c) (i := i) h4 (show N < 5 ^ hs.length by omega) h51 hs.length FUEL 0 0 (by omega) (by unfold FUEL; omega)
        rw [nI_0] at this
        exact this
      · rw [if_neg q2, if_neg q2, xl_so, xl_so, nI_1, nI_1]
        exact ih nn (N + 1) (cnt + 1) (by omega) (by omega)
    · rw [if_neg q, if_neg q, xb2_so, if_pos rfl, xl_so, nI_1]
      exact ih nn (N + 1) cnt (by omega) (by omega)
/-- told no number, no row is told -/
theorem rsF_no (h1 : i < -1) : ∀ m N cnt, cnt + m < 2 ^ 31 → rsF τ0 hs qn c i m N cnt = -1 := by
  have hn : ∀ cnt, cnt < 2 ^ 31 → ¬ nI cnt = i := fun cnt hc z => by
    rw [← z] at h1
    exact absurd (Int32.lt_trans h1 (by decide : (-1 : Int32) < 0)) (nI_pos hc)
  intro m
  induction m with
  | zero =>
    intro N cnt hc
    unfold rsF
    rw [if_neg (fun z => by rw [z] at h1; exact absurd h1 (by decide))]
  | succ m ih =>
    intro N cnt hc
    unfold rsF
    by_cases q : isR τ0 hs qn c N
    · rw [if_pos q, if_neg (hn cnt (by omega))]
      exact ih (N + 1) (cnt + 1) (by omega)
    · rw [if_neg q]
      exact ih (N + 1) cnt (by omega)
theorem a_rests (hD : Idep I) (hL : LKok I P S L) (X : QX I σ τ S P n0 n E go L ln qn sn mm M) (c i : Int32) : QR I (s_Main_rests c i σ) (s_Model_rests c i τ) σ τ := by
  have X0 := X.z hD
  have hP8 := X.P8
  obtain ⟨σ1, g1, g2, g3⟩ := g_isGame X c
  obtain ⟨τ1, l1, l2, l3⟩ := g_layHere X hD
  have hlt : ∀ i, i < (hpl (τ.1 583) P).length → (hpl (τ.1 583) P).getD i 0 < P := fun i hi => hpl_lt hi
  have hlen := hpl_len (A := τ.1 583) P
  generalize hpl (τ.1 583) P = hs at *
  have g2' : FR wSc σ σ1 := g2.up (fun b j z => by unfold wGa at z; unfold wSc; omega)
  have l2' : FR wSm (stI τ 570 0 0) τ1 := l2.up (fun b j z => by unfold wLa at z; unfold wSm; omega)
  unfold s_Main_rests s_Model_rests s_Main_rests_22 s_Model_rests_24
  rw [g1, xb2_so, xl_so, l1, xb2_so]
  by_cases q1 : mm < E ∧ 1 ≤ hs.length ∧ hs.length ≤ 4
  · rw [if_pos q1, if_neg (show ¬ (1 : Int32) = 0 by decide), m_in099, xb2_so]
    by_cases q2 : 0 ≤ c ∧ c ≤ 99
    · have G := g3 q1.2.2 ⟨q2, q1.1⟩
      rw [if_pos (show (0 ≤ c ∧ c ≤ 99) ∧ mm < E ∧ 1 ≤ hs.length ∧ hs.length ≤ 4 from ⟨q2, q1⟩), if_neg (show ¬ (1 : Int32) = 0 by decide), if_pos q2, if_neg (show ¬ (1 : Int32) = 0 by decide)]
      have h38 : ∀ j, σ1.1 38 j = σ.1 38 j := fun j => g2'.1 38 j (by unfold wSc; omega)
      obtain ⟨σ2, s1, s2⟩ := s_tries (c := c) (i := i) hD hL X0 q1.2.2 hlt 4 FUEL 0 σ1 (by omega) (by unfold FUEL; omega) G (g2'.up (fun b j z => by unfold wSc at z; unfold scC; omega)) (by rw [h38]; exact X0.fin.1) (by rw [h38]; exact X0.fin.2.1) (fun b hb => by subst hb; exact funext fun j => g2'.1 9 j (by unfold wSc; omega)) (fun l g hl => by omega)
      obtain ⟨σ3, t1, t2, t3, t4⟩ := s_zero (c := c) (i := i) q1.2.1 q1.2.2 (fun j hj => by have := hlt j hj; omega) s2
      have eC : s_Game_findRests c i σ1 = some (rsF (stI τ 570 0 0) hs qn c i (5 ^ hs.length) 0 0, σ3) := by
        unfold s_Game_findRests
        rw [nI_0] at s1
        exact s1.trans t1
      rw [eC, xb2_so]
      by_cases q3 : -1 ≤ i
      · have G1 : SGm I (stI τ 570 0 0) hs τ1 := ⟨l3, l2'.fts, by rw [l2'.1 570 39 (by unfold wSm; omega)]; exact X0.fin.2.2.1, by rw [l2'.1 570 40 (by unfold wSm; omega)]; exact X0.fin.2.2.2, wSm_I hD l2' X0.it⟩
        have p6 := p625 q1.2.2
        obtain ⟨τ2, u1, u2, u3⟩ := m_lays (c := c) hD hL X0 q1.2.1 q1.2.2 hlt (5 ^ hs.length) FUEL 0 τ1 (by omega) (by unfold FUEL; omega) G1 (fun N' h1 => by omega)
        have eL : s_Model_layCalls c τ1 = some τ2 := by
          unfold s_Model_layCalls
          rw [nI_0] at u1
          exact u1
        have lp := m_loop (i := i) q1.2.2 u2.1.1 u3 (5 ^ hs.length) FUEL 0 0 (by omega) (by unfold FUEL; omega)
        rw [nI_0] at lp
        rw [if_pos q3, eL, xb1_so, lp]
        exact ⟨_, σ3, τ2, rfl, rfl, t2, FT.z.tr u2.2.1, ⟨t3, t4, u2.2.2.1, u2.2.2.2.1⟩, u2.2.2.2.2⟩
      · have p6 := p625 q1.2.2
        rw [if_neg q3, rsF_no (Int32.not_le.mp q3) _ _ _ (by omega)]
        exact ⟨_, σ3, τ1, rfl, rfl, t2, FT.z.tr l2'.fts, ⟨t3, t4, by rw [l2'.1 570 39 (by unfold wSm; omega)]; exact X0.fin.2.2.1, by rw [l2'.1 570 40 (by unfold wSm; omega)]; exact X0.fin.2.2.2⟩, wSm_I hD l2' X0.it⟩
    · rw [if_neg (show ¬ ((0 ≤ c ∧ c ≤ 99) ∧ mm < E ∧ 1 ≤ hs.length ∧ hs.length ≤ 4) from fun z => q2 z.1), if_pos rfl, if_neg q2, if_pos rfl]
      exact QR.sc X hD g2' l2'
  · rw [if_neg q1, if_neg (show ¬ ((0 ≤ c ∧ c ≤ 99) ∧ mm < E ∧ 1 ≤ hs.length ∧ hs.length ≤ 4) from fun z => q1 z.2), if_pos rfl, if_pos rfl]
    exact QR.sc X hD g2' l2'
end
