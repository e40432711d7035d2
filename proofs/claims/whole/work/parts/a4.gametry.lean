/-! games of waiting: the call -/
theorem xb1_no {β : Type} {f : LH → Option β} : xb1 (none : Option LH) f = none := rfl
theorem neg_dg {y : Int32} (h : y < 0) (h2 : ¬ (y - y / 10 * 10) < 0) : y / 10 < 0 := by
  have b1 := y.le_toInt
  rw [Int32.lt_iff_toInt_lt, show (0 : Int32).toInt = 0 by decide] at h h2 ⊢
  obtain ⟨z, hz⟩ : ∃ z : Nat, y.toInt = -(z : Int) := ⟨y.toInt.natAbs, by omega⟩
  have e10 : (10 : Int32).toInt = 10 := by decide
  have hz2 : z ≤ 2 ^ 31 := by
    have : Int32.minValue.toInt = -2147483648 := by decide
    omega
  have d1 : (y / 10).toInt = -((z / 10 : Nat) : Int) := by
    rw [Int32.toInt_div, hz, e10, Int.neg_tdiv, Int.bmod_eq_of_le]
    · rw [Int.tdiv_eq_ediv_of_nonneg (by omega)]; omega
    · rw [Int.tdiv_eq_ediv_of_nonneg (by omega)]; omega
    · rw [Int.tdiv_eq_ediv_of_nonneg (by omega)]; omega
  have d2 : (y / 10 * 10).toInt = -((z / 10 * 10 : Nat) : Int) := by
    rw [Int32.toInt_mul, d1, e10, Int.bmod_eq_of_le (by omega) (by omega)]; omega
  have d3 : (y - y / 10 * 10).toInt = -((z % 10 : Nat) : Int) := by
    rw [Int32.toInt_sub, hz, d2, Int.bmod_eq_of_le (by omega) (by omega)]; omega
  rw [d3] at h2
  rw [d1]
  omega
section
variable {I : LH → Prop} {σ τ σ' τ' σ0 τ0 : LH} {S P n0 n E mm M sz : Nat} {go : Nat → Nat} {L : Nat → Nat → Nat → Int32} {ln : Nat → Nat → Nat → Nat} {qn sn nm qk : Nat → Nat} {hs : List Nat}
theorem row_neg {z : Int32} : ∀ (r n : Nat) (y : Int32) (σ : LH), r ≤ 4 → r < n → y < 0 → ∃ σ', s_Game_takeRow_9 z n y (nI r + (-1)) σ = some (0, σ') ∧ FR (fun b _ => b = 79) σ σ' := by
  intro r
  induction r with
  | zero =>
    intro n y σ hr hn hy
    obtain ⟨n, rfl⟩ : ∃ q, n = q + 1 := ⟨n - 1, by omega⟩
    refine ⟨σ, ?_, FR.rf⟩
    rw [s_Game_takeRow_9]
    unfold s_Game_takeRow_9_b s_Game_takeRow_64
    rw [if_pos (show nI 0 + (-1) < 0 by decide), if_neg (fun e => by rw [e] at hy; exact absurd hy (by decide)), if_pos (show zb 0 from Or.inl rfl)]
  | succ r ih =>
    intro n y σ hr hn hy
    obtain ⟨n, rfl⟩ : ∃ q, n = q + 1 := ⟨n - 1, by omega⟩
    have er : nI (r + 1) + (-1) = nI r := by rw [nI_prd (by omega), Nat.add_sub_cancel]
    have fc : FR (fun b _ => b = 79) σ (stI σ 79 r (y - y / 10 * 10)) := FR.I rfl
    rw [er, s_Game_takeRow_9]
    unfold s_Game_takeRow_9_b s_Game_takeRow_42
    rw [if_neg (nI_pos (by omega)), if_pos (ib_nI (show r < 4 by omega) (by omega)), nI_clamp (show r < 2 ^ 31 by omega), xl_so, if_pos (ib_nI (show r < 4 by omega) (by omega)), stI_e, if_pos rfl]
    by_cases q : (y - y / 10 * 10) < 0
    · rw [if_pos q]
      exact ⟨_, rfl, fc⟩
    · rw [if_neg q, if_pos (ib_nI (show r < 4 by omega) (by omega))]
      by_cases q2 : (y - y / 10 * 10) ≤ 4
      · rw [if_pos q2, xl_so, xl_so]
        obtain ⟨σ', a1, a2⟩ := ih n (y / 10) (stI σ 79 r (y - y / 10 * 10)) (by omega) (by omega) (neg_dg hy q)
        exact ⟨σ', a1, fc.tr a2⟩
      · rw [if_neg q2]
        exact ⟨_, rfl, fc⟩
/-- where one stands in the row -/
def plN (hs : List Nat) (x : Int32) : Nat → Nat → Int32
  | 0, _ => -1
  | r + 1, k => if nI (hs.getD k 0) = x then nI k else plN hs x r (k + 1)
theorem plN_ok {x : Int32} : ∀ r k, plN hs x r k = -1 ∨ ∃ j, k ≤ j ∧ j < k + r ∧ plN hs x r k = nI j ∧ nI (hs.getD j 0) = x := by
  intro r
  induction r with
  | zero => intro k; exact Or.inl rfl
  | succ r ih =>
    intro k
    unfold plN
    by_cases q : nI (hs.getD k 0) = x
    · rw [if_pos q]
      exact Or.inr ⟨k, by omega, by omega, rfl, q⟩
    · rw [if_neg q]
      rcases ih (k + 1) with z | ⟨j, z1, z2, z3⟩
      · exact Or.inl z
      · exact Or.inr ⟨j, by omega, by omega, z3⟩
theorem c_place {x : Int32} (hG : GAc σ hs) (h4 : hs.length ≤ 4) : s_Game_placeOf x σ = some (plN hs x hs.length 0, σ) := by
  have main : ∀ (r n k : Nat), k + r = hs.length → r < n → s_Game_placeOf_2 x n (nI k) σ = some (plN hs x r k, σ) := by
    intro r
    induction r with
    | zero =>
      intro n k hk hn
      obtain ⟨n, rfl⟩ : ∃ q, n = q + 1 := ⟨n - 1, by omega⟩
      rw [s_Game_placeOf_2]
      unfold s_Game_placeOf_2_b s_Game_placeOf_33
      rw [hG.1, if_pos (nI_le (by omega) (by omega))]
      rfl
    | succ r ih =>
      intro n k hk hn
      obtain ⟨n, rfl⟩ : ∃ q, n = q + 1 := ⟨n - 1, by omega⟩
      rw [s_Game_placeOf_2]
      unfold s_Game_placeOf_2_b s_Game_placeOf_33 plN
      rw [hG.1, if_neg (nI_ge (by omega) (by omega)), if_neg (show ¬ (4 : Int32) ≤ nI k from nI_ge (b := 4) (by omega) (by omega)), if_pos (ib_nI (show k < 4 by omega) (by omega)), nI_clamp (show k < 2 ^ 31 by omega), hG.2 k (by omega), xl_so, nI_1]
      by_cases q : nI (hs.getD k 0) = x
      · rw [if_pos q, if_pos q]
      · rw [if_neg q, if_neg q]
        exact ih n (k + 1) (by omega) (by omega)
  unfold s_Game_placeOf
  rw [← nI_0]
  exact main hs.length FUEL 0 (by omega) (by unfold FUEL; omega)
theorem m_place {x : Int32} (hG : GAm τ hs) (h4 : hs.length ≤ 8) : s_Model_hereOf x τ = some (plN hs x hs.length 0, τ) := by
  have main : ∀ (r n k : Nat), k + r = hs.length → r < n → s_Model_hereOf_2 x n (nI k) τ = some (plN hs x r k, τ) := by
    intro r
    induction r with
    | zero =>
      intro n k hk hn
      obtain ⟨n, rfl⟩ : ∃ q, n = q + 1 := ⟨n - 1, by omega⟩
      rw [s_Model_hereOf_2]
      unfold s_Model_hereOf_2_b
      rw [hG.1, if_pos (nI_le (by omega) (by omega))]
      rfl
    | succ r ih =>
      intro n k hk hn
      obtain ⟨n, rfl⟩ : ∃ q, n = q + 1 := ⟨n - 1, by omega⟩
      rw [s_Model_hereOf_2]
      unfold s_Model_hereOf_2_b plN
      rw [hG.1, if_neg (nI_ge (by omega) (by omega)), if_pos (ib_nI (show k < 8 by omega) (by omega)), nI_clamp (show k < 2 ^ 31 by omega), hG.2 k (by omega), xl_so, nI_1]
      by_cases q : nI (hs.getD k 0) = x
      · rw [if_pos q, if_pos q]
      · rw [if_neg q, if_neg q]
        exact ih n (k + 1) (by omega) (by omega)
  unfold s_Model_hereOf
  rw [← nI_0]
  exact main hs.length FUEL 0 (by omega) (by unfold FUEL; omega)
/-- an outcome, by its number -/
def OC (hs : List Nat) (wh : Option Nat) (ls o : Nat) : Prop := (wh = none ∧ ls = 4 ∧ o = 16) ∨ ∃ g, g < hs.length ∧ wh = some (hs.getD g 0) ∧ ls < 4 ∧ o = 4 * ls + g
theorem c_tryOut {wh : Option Nat} {ls o : Nat} (hD : Idep I) (hL : LKok I P S L) (X : QX I σ0 τ0 S P n0 n E go L ln qn sn mm M) (hO : OC hs wh ls o) (hG : GAc σ hs) (h4 : hs.length ≤ 4) (hP : ∀ i, i < hs.length → hs.getD i 0 < P) (hf : FR scC σ0 σ) (h2 : σ.1 38 2 = 1023) (h3 : σ.1 38 3 = -1) : ∃ σ', s_Game_tryOut (nI o) σ = some σ' ∧ (∀ k, k < hs.length → σ'.1 80 (4 * o + k) = Jv τ0 wh ls (hs.getD k 0)) ∧ (∀ j, (j < 4 * o ∨ 4 * o + hs.length ≤ j) → σ'.1 80 j = σ.1 80 j) ∧ FR scC σ0 σ' ∧ σ'.1 38 2 = 1023 ∧ σ'.1 38 3 = -1 ∧ (∀ b, b ≠ 38 → b ≠ 80 → (b < 69 ∨ 78 ≤ b) → σ'.1 b = σ.1 b) := by
  have hP8 := X.P8
  have hls : ls ≤ 4 := by rcases hO with ⟨_, h, _⟩ | ⟨g, _, _, h, _⟩ <;> omega
  have ho16 : o ≤ 16 := by rcases hO with ⟨_, _, h⟩ | ⟨g, h1, _, h2, h3⟩ <;> omega
  have hw : ∀ p, wh = some p → p < P := fun p hp => by
    rcases hO with ⟨h, _⟩ | ⟨g, h1, h2, _⟩
    · rw [h] at hp; cases hp
    · rw [h2] at hp; cases hp; exact hP g h1
  obtain ⟨s2, a1, a2, a3, a4, a5, a6⟩ := run_C (wh := wh) (ls := ls) hD hL X hw hls hf h2 h3
  have run : s_Game_tryOut (nI o) σ = xb1 (CTr wh ls σ) (fun s => s_Game_tryOut_71 (nI o) FUEL 0 s) := by
    unfold s_Game_tryOut CTr s_Game_tryOut_44
    cases hb : s_Hall_beginAs 69 39 σ with
    | none => rw [xb1_no, xb1_no, xb1_no]
    | some s1 =>
      have hs1 : s1.1 78 = σ.1 78 := by
        have hb0 := h_beginAs (σ := σ) (a := 69) (b := 39) (x := gH σ 69) (y := gH σ 39) (by omega) (fun c hc => rfl)
        rw [sH_gH, hb] at hb0
        injection hb0 with hb0
        rw [hb0, sH_hi (by omega)]
      rw [xb1_so, xb1_so]
      rcases hO with ⟨e1, e2, e3⟩ | ⟨g, g1, e1, e2, e3⟩
      · subst e1
        rw [e3, if_pos (show (16 : Int32) ≤ nI 16 by decide)]
        show _ = xb1 (xb1 (s_Evening_run 69 (s1.1 4 15) s1) fun s => s_Evening_dropGoing s) _
        cases s_Evening_run 69 (s1.1 4 15) s1 with
        | none => rw [xb1_no, xb1_no, xb1_no]
        | some s => rw [xb1_so, xb1_so]
      · subst e1
        have q1 : nI o - nI o / 4 * 4 = nI g := by
          rw [show nI o / 4 = nI (o / 4) from pk_div (d := 4) (by omega) (by omega) (by omega), show (4 : Int32) = nI 4 from rfl, pk_mul, pk_sub (by omega)]
          congr 1
          omega
        have q2 : nI o / 4 = nI ls := by
          rw [show nI o / 4 = nI (o / 4) from pk_div (d := 4) (by omega) (by omega) (by omega)]
          congr 1
          omega
        rw [if_neg (show ¬ (16 : Int32) ≤ nI o from nI_ge (b := 16) (by omega) (by omega)), q1, q2, if_pos (ib_nI (show g < 4 by omega) (by omega)), nI_clamp (show g < 2 ^ 31 by omega), hs1, hG.2 g g1]
        show _ = xb1 (xb1 (s_Evening_addGoing (nI (hs.getD g 0)) (s1.1 39 7 + nI ls) 1 s1) fun s1 => xb1 (s_Evening_run 69 (s1.1 4 15) s1) fun s => s_Evening_dropGoing s) _
        rw [g_addG, xb1_so, xb1_so]
        cases s_Evening_run 69 ((sE s1 (nI (hs.getD g 0)) (s1.1 39 7 + nI ls) 1).1 4 15) (sE s1 (nI (hs.getD g 0)) (s1.1 39 7 + nI ls) 1) with
        | none => rw [xb1_no, xb1_no, xb1_no]
        | some s => rw [xb1_so, xb1_so]
  have v5 : s2.1 68 5 = nI hs.length := by rw [a6 68 (by omega) (by omega)]; exact hG.1
  have v78 : ∀ i, i < hs.length → s2.1 78 i = nI (hs.getD i 0) := fun i hi => by rw [a6 78 (by omega) (by omega)]; exact hG.2 i hi
  have loop : ∀ (r nn k : Nat) (s : LH), k + r = hs.length → r < nn → (∀ b, b ≠ 80 → s.1 b = s2.1 b) → s.2 = s2.2 → ∃ F : Nat → Int32, (∀ j, j < 4 * o + k ∨ 4 * o + hs.length ≤ j → F j = s.1 80 j) ∧ (∀ i, k ≤ i → i < hs.length → F (4 * o + i) = s2.1 73 (hs.getD i 0)) ∧ s_Game_tryOut_71 (nI o) nn (nI k) s = some (stF s 80 F) := by
    intro r
    induction r with
    | zero =>
      intro nn k s hk hn hs1 hs2
      obtain ⟨nn, rfl⟩ : ∃ q, nn = q + 1 := ⟨nn - 1, by omega⟩
      refine ⟨s.1 80, fun _ _ => rfl, fun i h1 h2 => by omega, ?_⟩
      rw [s_Game_tryOut_71, stF_id]
      unfold s_Game_tryOut_71_b
      rw [hs1 68 (by omega), v5, if_pos (nI_le (by omega) (by omega))]
    | succ r ih =>
      intro nn k s hk hn hs1 hs2
      obtain ⟨nn, rfl⟩ : ∃ q, nn = q + 1 := ⟨nn - 1, by omega⟩
      obtain ⟨F, f1, f2, f3⟩ := ih nn (k + 1) (stI s 80 (4 * o + k) (s2.1 73 (hs.getD k 0))) (by omega) (by omega) (fun b hb => by rw [stI_n hb]; exact hs1 b hb) hs2
      have hp := hP k (by omega)
      refine ⟨F, fun j hj => ?_, fun i h1 h2 => ?_, ?_⟩
      · rw [f1 j (by omega), stI_e, if_neg (by omega)]
      · by_cases q : i = k
        · rw [q, f1 _ (by omega), stI_e, if_pos rfl]
        · exact f2 i (by omega) h2
      · rw [s_Game_tryOut_71]
        unfold s_Game_tryOut_71_b
        rw [hs1 68 (by omega), v5, if_neg (nI_ge (by omega) (by omega)), if_pos (ib_nI (show k < 4 by omega) (by omega)), nI_clamp (show k < 2 ^ 31 by omega), hs1 78 (by omega), v78 k (by omega), if_pos (ib_nI (show hs.getD k 0 < 8 by omega) (by omega)), nI_clamp (show hs.getD k 0 < 2 ^ 31 by omega), show (4 : Int32) = nI 4 from rfl, pk_mul, nI_add, Nat.mul_comm o 4, if_pos (ib_nI (show 4 * o + k < 68 by omega) (by omega)), nI_clamp (show 4 * o + k < 2 ^ 31 by omega), hs1 73 (by omega), xl_so, xl_so, nI_1, f3, stF_stI]
  obtain ⟨F, f1, f2, f3⟩ := loop hs.length FUEL 0 s2 (by omega) (by unfold FUEL; omega) (fun _ _ => rfl) rfl
  rw [nI_0] at f3
  refine ⟨stF s2 80 F, by rw [run, a1, xb1_so, f3], fun k hk => ?_, fun j hj => ?_, a3.tr ⟨fun b j q => by rw [stF_n (fun z => q (by unfold scC; omega))], rfl⟩, by rw [stF_n (by omega)]; exact a4, by rw [stF_n (by omega)]; exact a5, fun b h1 h2 h3 => by rw [stF_n h2, a6 b h1 h3]⟩
  · rw [stF_s, f2 k (by omega) hk]
    exact a2 _ (hP k hk)
  · rw [stF_s, f1 j (by omega), a6 80 (by omega) (by omega)]
/-- what the row gains one, once its outcome has been gone through -/
theorem c_gain {k : Nat} {cost : Int32} (hG : GAc σ hs) (h4 : hs.length ≤ 4) (hn : ∀ k, k < hs.length → σ.1 79 k = nI (nm k) ∧ nm k ≤ 4) (hP : ∀ i, i < hs.length → hs.getD i 0 < 8) (hq : ∀ k, k < hs.length → σ.1 9 (hs.getD k 0) = nI (qk k) ∧ qk k < 100) (hk : k < 4) : s_Game_gain (nI k) cost σ = some (σ.1 80 (4 * ocn nm qk hs.length + k) - cost * nI (LSn nm hs.length), σ) := by
  have ho : ocn nm qk hs.length ≤ 16 := by
    rcases ocn_WM (nm := nm) (qk := qk) (sz := hs.length) with ⟨_, _, h⟩ | ⟨g, _, h1, h2, h3⟩ <;> omega
  unfold s_Game_gain
  rw [c_outc (hs := hs) hG.1 h4 hn (fun k hk => ⟨hG.2 k hk, hP k hk⟩) hq, xb2_so, show (4 : Int32) = nI 4 from rfl, pk_mul, nI_add, Nat.mul_comm _ 4, if_pos (ib_nI (show 4 * ocn nm qk hs.length + k < 68 by omega) (by omega)), c_least hG.1 h4 hn, xb2_so, nI_clamp (show 4 * ocn nm qk hs.length + k < 2 ^ 31 by omega)]
/-- the model's rings -/
theorem m_rings {σ0 : LH} (hD : Idep I) (hL : LKok I P S L) (X : QX I σ0 τ0 S P n0 n E go L ln qn sn mm M) (hG : GAm τ hs) (h4 : hs.length ≤ 4) (hP : ∀ i, i < hs.length → hs.getD i 0 < P) (hn : ∀ k, k < hs.length → τ.1 592 k = nI (nm k) ∧ nm k ≤ 4) (hq : ∀ k, k < hs.length → τ.1 577 (4 * hs.getD k 0 + 1) = nI (qk k) ∧ qk k < 100) (hf : FT scM τ0 τ) (h2 : τ.1 570 39 = -1) (h3 : τ.1 570 40 = 0) (hI : I τ) : ∃ τ', s_Model_rings τ = some (nI (LSn nm hs.length), τ') ∧ (∀ p, p < P → τ'.1 584 (4 * p + 3) = Jv τ0 ((WMn nm qk hs.length).map fun g => hs.getD g 0) (LSn nm hs.length) p) ∧ FT scM τ0 τ' ∧ τ'.1 570 39 = -1 ∧ τ'.1 570 40 = 0 ∧ I τ' ∧ (∀ b, 590 ≤ b → τ'.1 b = τ.1 b) ∧ ∀ j, 42 ≤ j → τ'.1 570 j = τ.1 570 j := by
  have hP8 := X.P8
  have hls := LSn_le4 (nm := nm) hs.length
  have hw : ∀ p, ((WMn nm qk hs.length).map fun g => hs.getD g 0) = some p → p < P := fun p hp => by
    rcases ocn_WM (nm := nm) (qk := qk) (sz := hs.length) with ⟨h, _⟩ | ⟨g, h, h1, _⟩
    · rw [h] at hp; cases hp
    · rw [h] at hp; cases hp; exact hP g h1
  obtain ⟨τ2, a1, a2, a3⟩ := run_M (wh := (WMn nm qk hs.length).map fun g => hs.getD g 0) (ls := LSn nm hs.length) hD hL X hw hls hf h2 h3 hI
  refine ⟨τ2, ?_, a2, a3⟩
  rw [m_scan (hs := hs) (qk := qk) hG.1 h4 hn (fun k hk => ⟨hG.2 k hk, by have := hP k hk; omega⟩) hq]
  unfold MTr at a1
  cases hc : s_Model_copy 583 584 τ with
  | none => rw [hc] at a1; cases a1
  | some t1 =>
    rw [hc, xb1_so] at a1
    rw [xb1_so]
    cases hwm : (WMn nm qk hs.length).map fun g => hs.getD g 0 with
    | none =>
      rw [hwm] at a1
      have a1' : xb1 (s_Model_toEnd 584 t1) (fun t => some (stI t 570 40 0)) = some τ2 := a1
      rw [show oI none = -1 from rfl, if_pos rfl]
      unfold s_Model_rings_131
      cases ht : s_Model_toEnd 584 t1 with
      | none => rw [ht] at a1'; cases a1'
      | some t2 =>
        rw [ht, xb1_so] at a1'
        injection a1' with a1'
        rw [xb1_so, xl_so, a1']
    | some p =>
      have hp := hw p hwm
      rw [hwm] at a1
      have a1' : xb1 (s_Model_extra (nI p) ((t1.1 583 48) + nI (LSn nm hs.length)) 1 t1) (fun t1 => xb1 (s_Model_toEnd 584 t1) fun t => some (stI t 570 40 0)) = some τ2 := a1
      rw [show oI (some p) = nI p from rfl, if_neg (nI_m1 (by omega)), if_pos (show ib 48 290 by decide), show Int32.toNatClampNeg 48 = 48 by decide]
      unfold s_Model_rings_131
      cases hx : s_Model_extra (nI p) ((t1.1 583 48) + nI (LSn nm hs.length)) 1 t1 with
      | none => rw [hx] at a1'; cases a1'
      | some t3 =>
        rw [hx, xb1_so] at a1'
        rw [xb1_so]
        cases ht : s_Model_toEnd 584 t3 with
        | none => rw [ht] at a1'; cases a1'
        | some t2 =>
          rw [ht, xb1_so] at a1'
          injection a1' with a1'
          rw [xb1_so, xl_so, a1']
end
