/-! games of waiting: who goes -/
def LSn (nm : Nat → Nat) : Nat → Nat
  | 0 => 4
  | m + 1 => min (LSn nm m) (nm m)
def SCn (nm qk : Nat → Nat) (th : Nat) : Nat → Option Nat
  | 0 => none
  | m + 1 => if nm m = th then (match SCn nm qk th m with
    | none => some m
    | some g => if qk m ≤ qk g then some g else some m) else SCn nm qk th m
/-- who goes, by his place in the row; the outcome's number -/
def WMn (nm qk : Nat → Nat) (m : Nat) : Option Nat := if LSn nm m = 4 then none else SCn nm qk (LSn nm m) m
def ocn (nm qk : Nat → Nat) (sz : Nat) : Nat := if LSn nm sz = 4 then 16 else 4 * LSn nm sz + (SCn nm qk (LSn nm sz) sz).getD 0
section
variable {σ τ : LH} {nm qk : Nat → Nat} {hs : List Nat} {sz m th : Nat}
theorem LSn_le4 : ∀ m, LSn nm m ≤ 4 := by
  intro m
  induction m with
  | zero => exact Nat.le_refl 4
  | succ m ih => unfold LSn; omega
theorem LSn_le : ∀ m k, k < m → LSn nm m ≤ nm k := by
  intro m
  induction m with
  | zero => intro k hk; omega
  | succ m ih =>
    intro k hk
    unfold LSn
    by_cases q : k = m
    · rw [q]; omega
    · have := ih k (by omega); omega
theorem SCn_no : ∀ m, (∀ k, k < m → th < nm k) → SCn nm qk th m = none := by
  intro m
  induction m with
  | zero => intro _; rfl
  | succ m ih =>
    intro h
    unfold SCn
    rw [if_neg (by have := h m (by omega); omega), ih (fun k hk => h k (by omega))]
theorem SCn_lt : ∀ m g, SCn nm qk th m = some g → g < m := by
  intro m
  induction m with
  | zero => intro g h; cases h
  | succ m ih =>
    intro g h
    unfold SCn at h
    by_cases q : nm m = th
    · rw [if_pos q] at h
      cases e : SCn nm qk th m with
      | none => rw [e] at h; cases h; omega
      | some g' =>
        rw [e] at h
        simp only at h
        by_cases q2 : qk m ≤ qk g'
        · rw [if_pos q2] at h; cases h; have := ih g e; omega
        · rw [if_neg q2] at h; cases h; omega
    · rw [if_neg q] at h
      have := ih g h; omega
theorem SCn_some : ∀ m k, k < m → nm k = th → ∃ g, SCn nm qk th m = some g := by
  intro m
  induction m with
  | zero => intro k hk; omega
  | succ m ih =>
    intro k hk hn
    unfold SCn
    by_cases q : nm m = th
    · rw [if_pos q]
      cases e : SCn nm qk th m with
      | none => exact ⟨m, rfl⟩
      | some g' =>
        simp only
        by_cases q2 : qk m ≤ qk g'
        · rw [if_pos q2]; exact ⟨g', rfl⟩
        · rw [if_neg q2]; exact ⟨m, rfl⟩
    · rw [if_neg q]
      exact ih k (by
        by_cases z : k = m
        · rw [z] at hn; exact absurd hn q
        · omega) hn
theorem LSn_at : ∀ m, LSn nm m < 4 → ∃ k, k < m ∧ nm k = LSn nm m := by
  intro m
  induction m with
  | zero => intro h; unfold LSn at h; omega
  | succ m ih =>
    intro h
    unfold LSn at h ⊢
    by_cases q : nm m ≤ LSn nm m
    · exact ⟨m, by omega, by omega⟩
    · obtain ⟨k, k1, k2⟩ := ih (by omega)
      exact ⟨k, by omega, by omega⟩
/-- the outcome's number tells who goes, and when -/
theorem ocn_WM : (WMn nm qk sz = none ∧ LSn nm sz = 4 ∧ ocn nm qk sz = 16) ∨ ∃ g, WMn nm qk sz = some g ∧ g < sz ∧ LSn nm sz < 4 ∧ ocn nm qk sz = 4 * LSn nm sz + g := by
  unfold WMn ocn
  by_cases q : LSn nm sz = 4
  · rw [if_pos q, if_pos q]
    exact Or.inl ⟨rfl, q, rfl⟩
  · have h4 := LSn_le4 (nm := nm) sz
    obtain ⟨k, k1, k2⟩ := LSn_at (nm := nm) sz (by omega)
    obtain ⟨g, hg⟩ := SCn_some (qk := qk) sz k k1 k2
    rw [if_neg q, if_neg q, hg]
    exact Or.inr ⟨g, rfl, SCn_lt sz g hg, by omega, rfl⟩
theorem WMn_step : WMn nm qk (m + 1) = if LSn nm m < nm m ∨ nm m = 4 then WMn nm qk m else if nm m < LSn nm m then some m else (match WMn nm qk m with
    | none => some m
    | some g => if qk m ≤ qk g then some g else some m) := by
  have h4 := LSn_le4 (nm := nm) m
  have e : LSn nm (m + 1) = min (LSn nm m) (nm m) := rfl
  unfold WMn
  rw [e]
  by_cases q : LSn nm m < nm m ∨ nm m = 4
  · rw [if_pos q]
    have e2 : min (LSn nm m) (nm m) = LSn nm m := by omega
    rw [e2]
    by_cases q4 : LSn nm m = 4
    · rw [if_pos q4, if_pos q4]
    · rw [if_neg q4, if_neg q4]
      show (if nm m = LSn nm m then _ else _) = _
      rw [if_neg (by omega)]
  · rw [if_neg q]
    by_cases q2 : nm m < LSn nm m
    · have e2 : min (LSn nm m) (nm m) = nm m := by omega
      rw [if_pos q2, e2, if_neg (by omega)]
      show (if nm m = nm m then _ else _) = _
      rw [if_pos rfl, SCn_no m (fun k hk => by have := LSn_le (nm := nm) m k hk; omega)]
    · have e2 : min (LSn nm m) (nm m) = LSn nm m := by omega
      have e3 : nm m = LSn nm m := by omega
      rw [if_neg q2, e2, if_neg (by omega), if_neg (by omega)]
      show (if nm m = LSn nm m then _ else _) = _
      rw [if_pos e3]
theorem c_least (h5 : σ.1 68 5 = nI sz) (hs4 : sz ≤ 4) (hn : ∀ k, k < sz → σ.1 79 k = nI (nm k) ∧ nm k ≤ 4) : s_Game_least σ = some (nI (LSn nm sz), σ) := by
  have main : ∀ (r n m : Nat), m + r = sz → r < n → s_Game_least_4 n (nI (LSn nm m)) (nI m) σ = some (nI (LSn nm sz), σ) := by
    intro r
    induction r with
    | zero =>
      intro n m hm hr
      obtain ⟨n, rfl⟩ : ∃ q, n = q + 1 := ⟨n - 1, by omega⟩
      have : m = sz := by omega
      subst this
      rw [s_Game_least_4]
      unfold s_Game_least_4_b
      rw [h5, if_pos (nI_le (by omega) (by omega))]
    | succ r ih =>
      intro n m hm hr
      obtain ⟨n, rfl⟩ : ∃ q, n = q + 1 := ⟨n - 1, by omega⟩
      have h4 := LSn_le4 (nm := nm) m
      obtain ⟨v, v4⟩ := hn m (by omega)
      rw [s_Game_least_4]
      unfold s_Game_least_4_b s_Game_least_29
      rw [h5, if_neg (nI_ge (by omega) (by omega)), if_pos (ib_nI (show m < 4 by omega) (by omega)), if_pos (ib_nI (show m < 4 by omega) (by omega)), nI_clamp (show m < 2 ^ 31 by omega), v, xl_so, xl_so, nI_1]
      have e : LSn nm (m + 1) = min (LSn nm m) (nm m) := rfl
      have i := ih n (m + 1) (by omega) (by omega)
      rw [e] at i
      by_cases q : LSn nm m ≤ nm m
      · rw [if_pos (nI_le q (by omega))]
        rw [show min (LSn nm m) (nm m) = LSn nm m by omega] at i
        exact i
      · rw [if_neg (nI_ge (by omega) (by omega)), xl_so]
        rw [show min (LSn nm m) (nm m) = nm m by omega] at i
        exact i
  unfold s_Game_least
  have := main sz FUEL 0 (by omega) (by unfold FUEL; omega)
  rw [nI_0] at this
  exact this
theorem c_outc (h5 : σ.1 68 5 = nI sz) (hs4 : sz ≤ 4) (hn : ∀ k, k < sz → σ.1 79 k = nI (nm k) ∧ nm k ≤ 4) (hg : ∀ k, k < sz → σ.1 78 k = nI (hs.getD k 0) ∧ hs.getD k 0 < 8) (hq : ∀ k, k < sz → σ.1 9 (hs.getD k 0) = nI (qk k) ∧ qk k < 100) : s_Game_outcome σ = some (nI (ocn nm qk sz), σ) := by
  have h4 := LSn_le4 (nm := nm) sz
  unfold s_Game_outcome
  rw [c_least h5 hs4 hn, xb2_so]
  unfold ocn
  by_cases q4 : LSn nm sz = 4
  · rw [if_pos q4, q4, if_neg (show ¬ nI 4 < 4 by decide)]
    rfl
  · rw [if_neg q4, if_pos (show nI (LSn nm sz) < 4 from nI_lt (b := 4) (by omega) (by omega))]
    generalize LSn nm sz = th at *
    have main : ∀ (r n m : Nat), m + r = sz → r < n → s_Game_outcome_17 n (nI th) (oI (SCn nm qk th m)) (nI m) σ = some (nI (4 * th + (SCn nm qk th sz).getD 0), σ) := by
      intro r
      induction r with
      | zero =>
        intro n m hm hr
        obtain ⟨n, rfl⟩ : ∃ q, n = q + 1 := ⟨n - 1, by omega⟩
        have : m = sz := by omega
        subst this
        rw [s_Game_outcome_17]
        unfold s_Game_outcome_17_b s_Game_outcome_95
        rw [h5, if_pos (nI_le (by omega) (by omega)), show (4 : Int32) = nI 4 from rfl, pk_mul, Nat.mul_comm th 4]
        cases e : SCn nm qk th m with
        | none =>
          rw [show oI none = -1 from rfl, if_pos rfl, ← nI_0, nI_add]
          rfl
        | some g =>
          have := SCn_lt m g e
          rw [show oI (some g) = nI g from rfl, if_neg (nI_m1 (by omega)), nI_add]
          rfl
      | succ r ih =>
        intro n m hm hr
        obtain ⟨n, rfl⟩ : ∃ q, n = q + 1 := ⟨n - 1, by omega⟩
        obtain ⟨v, v4⟩ := hn m (by omega)
        obtain ⟨g1, g2⟩ := hg m (by omega)
        obtain ⟨q1, q2⟩ := hq m (by omega)
        have i := ih n (m + 1) (by omega) (by omega)
        have e : SCn nm qk th (m + 1) = if nm m = th then (match SCn nm qk th m with
          | none => some m
          | some g => if qk m ≤ qk g then some g else some m) else SCn nm qk th m := rfl
        rw [e] at i
        rw [s_Game_outcome_17]
        unfold s_Game_outcome_17_b s_Game_outcome_74 s_Game_outcome_76
        rw [h5, if_neg (nI_ge (by omega) (by omega)), if_pos (ib_nI (show m < 4 by omega) (by omega)), if_pos (ib_nI (show m < 4 by omega) (by omega)), nI_clamp (show m < 2 ^ 31 by omega), v, g1, xl_so, xl_so, nI_1]
        by_cases z : nm m = th
        · rw [if_pos z] at i
          rw [if_pos (show nI (nm m) = nI th by rw [z])]
          cases e2 : SCn nm qk th m with
          | none =>
            rw [e2] at i
            rw [show oI none = -1 from rfl, if_pos rfl]
            exact i
          | some g =>
            rw [e2] at i
            simp only at i
            have gl := SCn_lt m g e2
            obtain ⟨x1, x2⟩ := hg g (by omega)
            obtain ⟨y1, y2⟩ := hq g (by omega)
            rw [show oI (some g) = nI g from rfl, if_neg (nI_m1 (by omega)), if_pos (ib_nI g2 (by omega)), if_pos (ib_nI (show g < 4 by omega) (by omega)), nI_clamp (show g < 2 ^ 31 by omega), x1, if_pos (ib_nI x2 (by omega)), nI_clamp (show hs.getD m 0 < 2 ^ 31 by omega), nI_clamp (show hs.getD g 0 < 2 ^ 31 by omega), q1, y1]
            by_cases w : qk m ≤ qk g
            · rw [if_pos w] at i
              rw [if_pos (nI_le w (by omega))]
              exact i
            · rw [if_neg w] at i
              rw [if_neg (nI_ge (by omega) (by omega))]
              exact i
        · rw [if_neg z] at i
          rw [if_neg (fun y => z (nI_ij (by omega) (by omega) y))]
          exact i
    have := main sz FUEL 0 (by omega) (by unfold FUEL; omega)
    rw [nI_0] at this
    exact this
/-- the model's rings, up to the run -/
theorem m_scan (h51 : τ.1 570 51 = nI sz) (hs4 : sz ≤ 4) (hn : ∀ k, k < sz → τ.1 592 k = nI (nm k) ∧ nm k ≤ 4) (hg : ∀ k, k < sz → τ.1 591 k = nI (hs.getD k 0) ∧ hs.getD k 0 < 8) (hq : ∀ k, k < sz → τ.1 577 (4 * hs.getD k 0 + 1) = nI (qk k) ∧ qk k < 100) : s_Model_rings τ = xb1 (s_Model_copy 583 584 τ) (fun σ3 => if oI ((WMn nm qk sz).map fun g => hs.getD g 0) = -1 then s_Model_rings_131 (nI (LSn nm sz)) σ3 else if ib 48 290 then xb1 (s_Model_extra (oI ((WMn nm qk sz).map fun g => hs.getD g 0)) ((σ3.1 583 (Int32.toNatClampNeg 48)) + nI (LSn nm sz)) 1 σ3) fun σ10 => s_Model_rings_131 (nI (LSn nm sz)) σ10 else none) := by
  have main : ∀ (r n m : Nat), m + r = sz → r < n → s_Model_rings_6 n (nI (LSn nm m)) (oI ((WMn nm qk m).map fun g => hs.getD g 0)) (nI m) τ = xb1 (s_Model_copy 583 584 τ) (fun σ3 => if oI ((WMn nm qk sz).map fun g => hs.getD g 0) = -1 then s_Model_rings_131 (nI (LSn nm sz)) σ3 else if ib 48 290 then xb1 (s_Model_extra (oI ((WMn nm qk sz).map fun g => hs.getD g 0)) ((σ3.1 583 (Int32.toNatClampNeg 48)) + nI (LSn nm sz)) 1 σ3) fun σ10 => s_Model_rings_131 (nI (LSn nm sz)) σ10 else none) := by
    intro r
    induction r with
    | zero =>
      intro n m hm hr
      obtain ⟨n, rfl⟩ : ∃ q, n = q + 1 := ⟨n - 1, by omega⟩
      have : m = sz := by omega
      subst this
      rw [s_Model_rings_6]
      unfold s_Model_rings_6_b
      rw [h51, if_pos (nI_le (by omega) (by omega))]
    | succ r ih =>
      intro n m hm hr
      obtain ⟨n, rfl⟩ : ∃ q, n = q + 1 := ⟨n - 1, by omega⟩
      obtain ⟨v, v4⟩ := hn m (by omega)
      obtain ⟨g1, g2⟩ := hg m (by omega)
      obtain ⟨q1, q2⟩ := hq m (by omega)
      have h4 := LSn_le4 (nm := nm) m
      have i := ih n (m + 1) (by omega) (by omega)
      have e : LSn nm (m + 1) = min (LSn nm m) (nm m) := rfl
      rw [WMn_step, e] at i
      rw [s_Model_rings_6]
      unfold s_Model_rings_6_b s_Model_rings_84 s_Model_rings_87 s_Model_rings_94
      simp only [if_pos (ib_nI (show m < 8 by omega) (show 8 < 2 ^ 31 by omega)), nI_clamp (show m < 2 ^ 31 by omega)]
      rw [h51, if_neg (nI_ge (by omega) (by omega)), xl_so, v, g1, xl_so, nI_1]
      by_cases z1 : LSn nm m < nm m
      · rw [if_pos (Or.inl z1), show min (LSn nm m) (nm m) = LSn nm m by omega] at i
        rw [if_pos (nI_lt z1 (by omega))]
        exact i
      · rw [if_neg (nI_nlt (by omega) (by omega))]
        by_cases z2 : nm m = 4
        · rw [if_pos (Or.inr z2), show min (LSn nm m) (nm m) = LSn nm m by omega] at i
          rw [if_pos (show nI (nm m) = 4 by rw [z2]; rfl)]
          exact i
        · rw [if_neg (by omega)] at i
          rw [if_neg (show ¬ nI (nm m) = 4 from fun y => z2 (nI_ij (b := 4) (by omega) (by omega) y)), xl_so, xl_so]
          by_cases z3 : nm m < LSn nm m
          · rw [if_pos z3, show min (LSn nm m) (nm m) = nm m by omega] at i
            rw [if_pos (nI_lt z3 (by omega))]
            exact i
          · rw [if_neg z3, show min (LSn nm m) (nm m) = nm m by omega] at i
            rw [if_neg (nI_nlt (by omega) (by omega))]
            cases e2 : WMn nm qk m with
            | none =>
              rw [e2] at i
              rw [show oI (Option.map (fun g => hs.getD g 0) none) = -1 from rfl, if_pos rfl]
              exact i
            | some g =>
              rw [e2] at i
              simp only at i
              have gl : g < m := by
                unfold WMn at e2
                by_cases y : LSn nm m = 4
                · rw [if_pos y] at e2; cases e2
                · rw [if_neg y] at e2; exact SCn_lt m g e2
              obtain ⟨x1, x2⟩ := hg g (by omega)
              obtain ⟨y1, y2⟩ := hq g (by omega)
              rw [show oI (Option.map (fun g => hs.getD g 0) (some g)) = nI (hs.getD g 0) from rfl, if_neg (nI_m1 (by omega)), c4, c4, Jvm.Pilot.CLostPlacesLaw_law_r3427_12969d.a1, Jvm.Pilot.CLostPlacesLaw_law_r3427_12969d.a1, if_pos (ib_nI (show 4 * hs.getD m 0 + 1 < 32 by omega) (by omega)), if_pos (ib_nI (show 4 * hs.getD g 0 + 1 < 32 by omega) (by omega)), nI_clamp (show 4 * hs.getD m 0 + 1 < 2 ^ 31 by omega), nI_clamp (show 4 * hs.getD g 0 + 1 < 2 ^ 31 by omega), q1, y1]
              by_cases w : qk m ≤ qk g
              · rw [if_pos w] at i
                rw [if_pos (nI_le w (by omega))]
                exact i
              · rw [if_neg w] at i
                rw [if_neg (nI_ge (by omega) (by omega))]
                exact i
  unfold s_Model_rings
  have := main sz FUEL 0 (by omega) (by unfold FUEL; omega)
  rw [nI_0] at this
  exact this
end
