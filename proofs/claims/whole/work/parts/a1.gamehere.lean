/-! games of waiting: who is here, numbers told -/
/-- who is here, of the first sitters -/
def hpl (A : Nat → Int32) : Nat → List Nat
  | 0 => []
  | p + 1 => if A (4 * p) = -2 then hpl A p else hpl A p ++ [p]
def GAc (σ : LH) (l : List Nat) : Prop := σ.1 68 5 = nI l.length ∧ ∀ i, i < l.length → σ.1 78 i = nI (l.getD i 0)
def GAm (τ : LH) (l : List Nat) : Prop := τ.1 570 51 = nI l.length ∧ ∀ i, i < l.length → τ.1 591 i = nI (l.getD i 0)
def wGa (b j : Nat) : Prop := (b = 68 ∧ j = 5) ∨ b = 78
def wLa (b j : Nat) : Prop := (b = 570 ∧ j = 51) ∨ b = 591
section
variable {σ τ : LH} {A : Nat → Int32} {P : Nat} {l : List Nat}
theorem hpl_mono : ∀ d p, (hpl A p).length ≤ (hpl A (p + d)).length := by
  intro d
  induction d with
  | zero => intro p; exact Nat.le_refl _
  | succ d ih =>
    intro p
    have := ih p
    have e1 : hpl A (p + (d + 1)) = if A (4 * (p + d)) = -2 then hpl A (p + d) else hpl A (p + d) ++ [p + d] := rfl
    rw [e1]
    by_cases q : A (4 * (p + d)) = -2
    · rw [if_pos q]; exact this
    · rw [if_neg q, List.length_append]; omega
theorem hpl_len : ∀ p, (hpl A p).length ≤ p := by
  intro p
  induction p with
  | zero => exact Nat.le_refl 0
  | succ p ih =>
    unfold hpl
    by_cases q : A (4 * p) = -2
    · rw [if_pos q]; omega
    · rw [if_neg q, List.length_append, List.length_singleton]; omega
theorem hpl_mem : ∀ p, ∀ x ∈ hpl A p, x < p := by
  intro p
  induction p with
  | zero => intro x hx; cases hx
  | succ p ih =>
    unfold hpl
    intro x hx
    by_cases q : A (4 * p) = -2
    · rw [if_pos q] at hx; have := ih x hx; omega
    · rw [if_neg q] at hx
      rcases List.mem_append.mp hx with hx | hx
      · have := ih x hx; omega
      · rw [List.mem_singleton] at hx; omega
theorem gD_mem {l : List Nat} {i : Nat} (h : i < l.length) : l.getD i 0 ∈ l := by
  rw [List.getD_eq_getElem?_getD, List.getElem?_eq_getElem h]
  exact List.getElem_mem _
theorem hpl_lt {i : Nat} (h : i < (hpl A P).length) : (hpl A P).getD i 0 < P := hpl_mem P _ (gD_mem h)
theorem GAc.add (h : GAc σ l) (hl : l.length < 2 ^ 30) {p : Nat} : GAc (stI (stI σ 78 l.length (nI p)) 68 5 (nI (l.length + 1))) (l ++ [p]) := by
  refine ⟨by rw [stI_e, if_pos rfl, List.length_append, List.length_singleton], fun i hi => ?_⟩
  rw [List.length_append, List.length_singleton] at hi
  rw [stI_n (by omega), stI_e, gD_app]
  by_cases q : i = l.length
  · rw [if_pos q, if_neg (by omega), q, Nat.sub_self]
    rfl
  · rw [if_neg q, if_pos (by omega)]
    exact h.2 i (by omega)
theorem GAm.add (h : GAm τ l) {p : Nat} : GAm (stI (stI τ 591 l.length (nI p)) 570 51 (nI (l.length + 1))) (l ++ [p]) := by
  refine ⟨by rw [stI_570, if_pos rfl, List.length_append, List.length_singleton], fun i hi => ?_⟩
  rw [List.length_append, List.length_singleton] at hi
  rw [stI_n (by omega), stI_e, gD_app]
  by_cases q : i = l.length
  · rw [if_pos q, if_neg (by omega), q, Nat.sub_self]
    rfl
  · rw [if_neg q, if_pos (by omega)]
    exact h.2 i (by omega)
theorem c_gath (hP8 : P ≤ 8) : ∀ (m n p : Nat) (σ : LH), p + m = P → m < n → σ.1 4 1 = nI P → (∀ q, q < P → σ.1 40 q = A (4 * q)) → GAc σ (hpl A p) → (hpl A p).length ≤ 4 → ∃ σ', s_Game_gather_7 n (nI p) σ = some (if 1 ≤ (hpl A P).length ∧ (hpl A P).length ≤ 4 then 1 else 0, σ') ∧ FR wGa σ σ' ∧ ((hpl A P).length ≤ 4 → GAc σ' (hpl A P)) := by
  intro m
  induction m with
  | zero =>
    intro n p σ hp hn h41 h40 hG hl
    obtain ⟨n, rfl⟩ : ∃ q, n = q + 1 := ⟨n - 1, by omega⟩
    have : p = P := by omega
    subst this
    refine ⟨σ, ?_, FR.rf, fun _ => hG⟩
    rw [s_Game_gather_7]
    unfold s_Game_gather_7_b s_Game_gather_83
    rw [h41, if_pos (nI_le (by omega) (by omega)), hG.1, if_pos (show zb 0 from Or.inl rfl), if_pos (show zb 1 from Or.inr rfl)]
    by_cases q : (hpl A p).length = 0
    · rw [q, if_pos (show nI 0 ≤ 0 by decide), if_neg (by omega)]
    · rw [if_neg (show ¬ nI (hpl A p).length ≤ 0 from nI_ge (a := 0) (b := (hpl A p).length) (by omega) (by omega)), if_pos ⟨by omega, hl⟩]
  | succ m ih =>
    intro n p σ hp hn h41 h40 hG hl
    obtain ⟨n, rfl⟩ : ∃ q, n = q + 1 := ⟨n - 1, by omega⟩
    have e1 : hpl A (p + 1) = if A (4 * p) = -2 then hpl A p else hpl A p ++ [p] := rfl
    rw [s_Game_gather_7]
    unfold s_Game_gather_7_b s_Game_gather_65
    rw [h41, if_neg (nI_ge (by omega) (by omega)), if_pos (ib_nI (show p < 8 by omega) (by omega)), nI_clamp (show p < 2 ^ 31 by omega), h40 p (by omega), hG.1, xl_so, nI_1]
    by_cases q : A (4 * p) = -2
    · rw [if_pos q] at e1
      rw [if_pos q]
      exact ih n (p + 1) σ (by omega) (by omega) h41 h40 (by rw [e1]; exact hG) (by rw [e1]; exact hl)
    · rw [if_neg q] at e1
      rw [if_neg q]
      by_cases q4 : (hpl A p).length < 4
      · rw [if_pos (show nI (hpl A p).length < 4 from nI_lt (b := 4) q4 (by omega)), if_pos (ib_nI q4 (by omega)), nI_clamp (show (hpl A p).length < 2 ^ 31 by omega), xl_so, stI_n (b := 68) (by omega), hG.1, nI_1, xl_so, xl_so]
        obtain ⟨σ', a1, a2, a3⟩ := ih n (p + 1) (stI (stI σ 78 (hpl A p).length (nI p)) 68 5 (nI ((hpl A p).length + 1))) (by omega) (by omega) (by rw [stI_n (by omega), stI_n (by omega)]; exact h41) (fun q hq => by rw [stI_n (by omega), stI_n (by omega)]; exact h40 q hq) (by rw [e1]; exact hG.add (by omega)) (by rw [e1, List.length_append, List.length_singleton]; omega)
        exact ⟨σ', a1, ((FR.I (by unfold wGa; omega)).tr (FR.I (by unfold wGa; omega))).tr a2, a3⟩
      · have hm := hpl_mono (A := A) m (p + 1)
        rw [e1, List.length_append, List.length_singleton, show p + 1 + m = P by omega] at hm
        rw [if_neg (show ¬ nI (hpl A p).length < 4 from nI_nlt (b := 4) (by omega) (by omega)), if_neg (by omega)]
        exact ⟨σ, rfl, FR.rf, fun z => by omega⟩
theorem m_lay {mm c : Nat} (hP8 : P ≤ 8) (hc : mm + c < 100) : ∀ (m n p : Nat) (τ : LH), p + m = P → m < n → τ.1 570 27 = nI P → τ.1 581 1 = nI (mm + c) → τ.1 583 48 = nI mm → (∀ q, q < P → τ.1 583 (4 * q) = A (4 * q)) → GAm τ (hpl A p) → ∃ τ', s_Model_layHere_7 n (nI p) τ = some (if c ≠ 0 ∧ 1 ≤ (hpl A P).length ∧ (hpl A P).length ≤ 4 then 1 else 0, τ') ∧ FR wLa τ τ' ∧ GAm τ' (hpl A P) := by
  intro m
  induction m with
  | zero =>
    intro n p τ hp hn h27 h81 h48 hA hG
    obtain ⟨n, rfl⟩ : ∃ q, n = q + 1 := ⟨n - 1, by omega⟩
    have : p = P := by omega
    subst this
    have hlen := hpl_len (A := A) p
    refine ⟨τ, ?_, FR.rf, hG⟩
    rw [s_Model_layHere_7]
    unfold s_Model_layHere_7_b s_Model_layHere_81 s_Model_layHere_82
    rw [h27, if_pos (nI_le (by omega) (by omega))]
    simp only [if_pos (show zb 0 from Or.inl rfl), if_pos (show zb 1 from Or.inr rfl)]
    by_cases q0 : p = 0
    · subst q0
      have e : s_Model_isOpen τ = some (0, τ) := by
        unfold s_Model_isOpen s_Model_isOpen_18 s_Model_isOpen_19
        rw [h27, if_pos (show nI 0 ≤ 0 by decide), if_pos (show zb 0 from Or.inl rfl)]
      rw [e, xb2_so, if_pos rfl, if_neg (by omega)]
    · rw [m_isOpen h27 hP8 (by omega) h81 h48 hc, xb2_so, hG.1]
      by_cases qc : c = 0
      · rw [if_pos qc, if_pos rfl, if_neg (by omega)]
      · rw [if_neg qc, if_neg (show ¬ (1 : Int32) = 0 by decide)]
        by_cases q : (hpl A p).length = 0
        · rw [q, if_pos (show nI 0 ≤ 0 by decide), if_neg (by omega)]
        · rw [if_neg (show ¬ nI (hpl A p).length ≤ 0 from nI_ge (a := 0) (b := (hpl A p).length) (by omega) (by omega))]
          by_cases q5 : 5 ≤ (hpl A p).length
          · rw [if_pos (show (5 : Int32) ≤ nI (hpl A p).length from nI_le (a := 5) q5 (by omega)), if_neg (by omega)]
          · rw [if_neg (show ¬ (5 : Int32) ≤ nI (hpl A p).length from nI_ge (b := 5) (by omega) (by omega)), if_pos ⟨qc, by omega, by omega⟩]
  | succ m ih =>
    intro n p τ hp hn h27 h81 h48 hA hG
    obtain ⟨n, rfl⟩ : ∃ q, n = q + 1 := ⟨n - 1, by omega⟩
    have e1 : hpl A (p + 1) = if A (4 * p) = -2 then hpl A p else hpl A p ++ [p] := rfl
    have hlen := hpl_len (A := A) p
    rw [s_Model_layHere_7]
    unfold s_Model_layHere_7_b s_Model_layHere_49
    rw [h27, if_neg (nI_ge (by omega) (by omega)), m_isHere (by omega), hA p (by omega), xb2_so, xl_so, nI_1]
    by_cases q : A (4 * p) = -2
    · rw [if_pos q] at e1
      rw [if_pos q, if_pos rfl]
      exact ih n (p + 1) τ (by omega) (by omega) h27 h81 h48 hA (by rw [e1]; exact hG)
    · rw [if_neg q] at e1
      rw [if_neg q, if_neg (show ¬ (1 : Int32) = 0 by decide), hG.1, if_pos (ib_nI (show (hpl A p).length < 8 by omega) (by omega)), nI_clamp (show (hpl A p).length < 2 ^ 31 by omega), xl_so, stI_n (b := 570) (by omega), hG.1, nI_1, xl_so, xl_so]
      obtain ⟨τ', a1, a2, a3⟩ := ih n (p + 1) (stI (stI τ 591 (hpl A p).length (nI p)) 570 51 (nI ((hpl A p).length + 1))) (by omega) (by omega) (by rw [stI_570, if_neg (by omega), stI_n (by omega)]; exact h27) (by rw [stI_n (by omega), stI_n (by omega)]; exact h81) (by rw [stI_n (by omega), stI_n (by omega)]; exact h48) (fun q hq => by rw [stI_n (by omega), stI_n (by omega)]; exact hA q hq) (by rw [e1]; exact hG.add)
      exact ⟨τ', a1, ((FR.I (by unfold wLa; omega)).tr (FR.I (by unfold wLa; omega))).tr a2, a3⟩
/-- numbers told, in both -/
def NMb (σ τ : LH) (r sz : Nat) : Prop := ∀ k, r ≤ k → k < sz → ∃ d, d ≤ 4 ∧ σ.1 79 k = nI d ∧ τ.1 592 k = nI d
theorem dg_n {v : Nat} (hv : v < 2 ^ 31) : nI v - nI v / 10 * 10 = nI (v % 10) ∧ nI v / 10 = nI (v / 10) := by
  have e : nI v / 10 = nI (v / 10) := pk_div (d := 10) hv (by omega) (by omega)
  refine ⟨?_, e⟩
  rw [e, show (10 : Int32) = nI 10 from rfl, pk_mul, pk_sub (by omega)]
  congr 1
  omega
theorem rows_ok {sz : Nat} {p1 p2 : Int32} (hs : sz ≤ 4) : ∀ (r n n' v : Nat) (σ τ : LH), r ≤ sz → r < n → r < n' → v < 2 ^ 31 → NMb σ τ r sz → (∃ σ' τ' y, (∀ z, s_Game_takeRow_9 z n (nI v) (nI r + (-1)) σ = some (0, σ')) ∧ (∀ z, s_Model_call_52 z p1 p2 n' (nI v) (nI r + (-1)) τ = some (-1000000, τ')) ∧ FR (fun b _ => b = 79) σ σ' ∧ FR (fun b _ => b = 592) τ τ' ∧ y = (0 : Nat)) ∨ (∃ σ' τ' m, (∀ z, s_Game_takeRow_9 z n (nI v) (nI r + (-1)) σ = some (1, σ')) ∧ (∀ z, s_Model_call_52 z p1 p2 n' (nI v) (nI r + (-1)) τ = s_Model_call_52 z p1 p2 (m + 1) (nI 0) (nI 0 + (-1)) τ') ∧ FR (fun b _ => b = 79) σ σ' ∧ FR (fun b _ => b = 592) τ τ' ∧ NMb σ' τ' 0 sz) := by
  intro r
  induction r with
  | zero =>
    intro n n' v σ τ hr hn hn' hv hN
    obtain ⟨n, rfl⟩ : ∃ q, n = q + 1 := ⟨n - 1, by omega⟩
    obtain ⟨n', rfl⟩ : ∃ q, n' = q + 1 := ⟨n' - 1, by omega⟩
    by_cases q : v = 0
    · subst q
      refine Or.inr ⟨σ, τ, n', fun z => ?_, fun z => rfl, FR.rf, FR.rf, hN⟩
      rw [s_Game_takeRow_9]
      unfold s_Game_takeRow_9_b s_Game_takeRow_64
      rw [if_pos (show nI 0 + (-1) < 0 by decide), if_pos (show nI 0 = 0 from rfl), if_pos (show zb 1 from Or.inr rfl)]
    · refine Or.inl ⟨σ, τ, 0, fun z => ?_, fun z => ?_, FR.rf, FR.rf, rfl⟩
      · rw [s_Game_takeRow_9]
        unfold s_Game_takeRow_9_b s_Game_takeRow_64
        rw [if_pos (show nI 0 + (-1) < 0 by decide), if_neg (show ¬ nI v = 0 from fun y => q (nI_ij (b := 0) hv (by omega) y)), if_pos (show zb 0 from Or.inl rfl)]
      · rw [s_Model_call_52]
        unfold s_Model_call_52_b
        rw [if_pos (show nI 0 + (-1) < 0 by decide), if_neg (show ¬ nI v ≤ 0 from nI_ge (a := 0) (b := v) (by omega) hv)]
  | succ r ih =>
    intro n n' v σ τ hr hn hn' hv hN
    obtain ⟨n, rfl⟩ : ∃ q, n = q + 1 := ⟨n - 1, by omega⟩
    obtain ⟨n', rfl⟩ : ∃ q, n' = q + 1 := ⟨n' - 1, by omega⟩
    have er : nI (r + 1) + (-1) = nI r := by rw [nI_prd (by omega), Nat.add_sub_cancel]
    obtain ⟨d1, d2⟩ := dg_n hv
    have eC : ∀ z, s_Game_takeRow_9 z (n + 1) (nI v) (nI (r + 1) + (-1)) σ = if v % 10 ≤ 4 then s_Game_takeRow_9 z n (nI (v / 10)) (nI r + (-1)) (stI σ 79 r (nI (v % 10))) else some (0, stI σ 79 r (nI (v % 10))) := fun z => by
      rw [er, s_Game_takeRow_9]
      unfold s_Game_takeRow_9_b s_Game_takeRow_42
      rw [if_neg (nI_pos (by omega)), if_pos (ib_nI (show r < 4 by omega) (by omega)), nI_clamp (show r < 2 ^ 31 by omega), d1, d2, xl_so, if_pos (ib_nI (show r < 4 by omega) (by omega)), stI_e, if_pos rfl, if_neg (nI_pos (by omega)), if_pos (ib_nI (show r < 4 by omega) (by omega))]
      by_cases q : v % 10 ≤ 4
      · rw [if_pos q, if_pos (show nI (v % 10) ≤ 4 from nI_le (b := 4) q (by omega)), xl_so, xl_so]
      · rw [if_neg q, if_neg (show ¬ nI (v % 10) ≤ 4 from nI_ge (a := 4) (b := v % 10) (by omega) (by omega))]
    have eM : ∀ z, s_Model_call_52 z p1 p2 (n' + 1) (nI v) (nI (r + 1) + (-1)) τ = if v % 10 ≤ 4 then s_Model_call_52 z p1 p2 n' (nI (v / 10)) (nI r + (-1)) (stI τ 592 r (nI (v % 10))) else some (-1000000, stI τ 592 r (nI (v % 10))) := fun z => by
      rw [er, s_Model_call_52]
      unfold s_Model_call_52_b
      rw [if_neg (nI_pos (by omega)), if_pos (ib_nI (show r < 8 by omega) (by omega)), nI_clamp (show r < 2 ^ 31 by omega), d1, d2, xl_so, xl_so, if_pos (ib_nI (show r < 8 by omega) (by omega)), stI_e, if_pos rfl]
      by_cases q : v % 10 ≤ 4
      · rw [if_pos q, if_pos (show nI (v % 10) ≤ 4 from nI_le (b := 4) q (by omega)), xl_so]
      · rw [if_neg q, if_neg (show ¬ nI (v % 10) ≤ 4 from nI_ge (a := 4) (b := v % 10) (by omega) (by omega))]
    have fc : FR (fun b _ => b = 79) σ (stI σ 79 r (nI (v % 10))) := FR.I rfl
    have fm : FR (fun b _ => b = 592) τ (stI τ 592 r (nI (v % 10))) := FR.I rfl
    by_cases q : v % 10 ≤ 4
    · have N' : NMb (stI σ 79 r (nI (v % 10))) (stI τ 592 r (nI (v % 10))) r sz := fun k h1 h2 => by
        by_cases y : k = r
        · exact ⟨v % 10, q, by rw [stI_e, if_pos y], by rw [stI_e, if_pos y]⟩
        · obtain ⟨d, e1, e2, e3⟩ := hN k (by omega) h2
          exact ⟨d, e1, by rw [stI_e, if_neg y]; exact e2, by rw [stI_e, if_neg y]; exact e3⟩
      rcases ih n n' (v / 10) _ _ (by omega) (by omega) (by omega) (by omega) N' with ⟨σ', τ', y, a1, a2, a3, a4, a5⟩ | ⟨σ', τ', m, a1, a2, a3, a4, a5⟩
      · exact Or.inl ⟨σ', τ', y, fun z => by rw [eC z, if_pos q]; exact a1 z, fun z => by rw [eM z, if_pos q]; exact a2 z, fc.tr a3, fm.tr a4, a5⟩
      · exact Or.inr ⟨σ', τ', m, fun z => by rw [eC z, if_pos q]; exact a1 z, fun z => by rw [eM z, if_pos q]; exact a2 z, fc.tr a3, fm.tr a4, a5⟩
    · exact Or.inl ⟨_, _, 0, fun z => by rw [eC z, if_neg q], fun z => by rw [eM z, if_neg q], fc, fm, rfl⟩
end
