/-! the model reads a room -/
theorem nI_all (v : Int32) : ∃ d, v = nI d := by
  refine ⟨v.toBitVec.toNat, Int32.toBitVec_inj.mp ?_⟩
  show v.toBitVec = BitVec.ofNat 32 v.toBitVec.toNat
  rw [BitVec.ofNat_toNat, BitVec.setWidth_eq]
section
variable {τ τ' : LH} {B : Nat → Nat} {e a k d : Nat} {R : RM} {f : Int32}
theorem TM.rd (h : TM τ B e 571 0) (hf : FR wRd τ τ') : TM τ' B e 571 0 := by
  obtain ⟨h1, h2, h3, h4, h5⟩ := h
  exact ⟨by rw [hf.2]; exact h1, h2, by rw [hf.1 570 8 (by unfold wRd; omega)]; exact h3, by rw [hf.1 570 9 (by unfold wRd; omega)]; exact h4, fun i hi => by rw [hf.1 571 _ (by unfold wRd; omega)]; exact h5 i hi⟩
theorem chA_0 (h : ∀ i, i < e → 1 ≤ B i) (ha : a ≤ e) (h0 : chA B e a = 0) : a = e := by
  refine Decidable.byContradiction fun q => ?_
  have hl : a < e := by omega
  rw [chA_in hl] at h0
  have := h a hl
  omega
theorem m_r116F {f : Nat} (hf : f < 2 ^ 31) : s_Model_readRoom_116 (mS τ a (nI f) d) = some (mS τ a (nI f) d) := by
  unfold s_Model_readRoom_116 s_Model_readRoom_144
  rw [mS_11, if_neg (nI_m1 hf)]
theorem m_r60F {f n : Nat} (hf : f < 2 ^ 31) : s_Model_readRoom_60 (n + 1) 0 (mS τ a (nI f) d) = some (mS τ a (nI f) d) := by
  rw [s_Model_readRoom_60]
  unfold s_Model_readRoom_60_b
  rw [if_pos rfl, m_r116F hf]
/-- at the end of the clauses -/
theorem m_r116 (h : TM τ B e 571 0) (hR : MRm τ R) (hB : RB R) (ha : a ≤ e) (hs : sk B e a = a) (hc : chA B e a ≠ 59) : s_Model_readRoom_116 (mS τ a (-1) d) = if chA B e a = 0 then (if whR R = true then some (mS τ a (-1) d) else some (mS τ a (nI a) d)) else some (mS τ a (nI a) d) := by
  have hch := h.ch (a := a)
  unfold s_Model_readRoom_116 s_Model_readRoom_139 s_Model_readRoom_144
  rw [mS_11, if_pos rfl, m_look h ha, hs]
  simp only [xb2]
  by_cases q : chA B e a = 0
  · rw [if_pos q, if_pos ((oc_m1 (by omega)).mpr q), m_whole (hR.mS) hB]
    simp only [ite10]
    by_cases z : whR R = true
    · rw [if_pos z, if_pos z]
    · rw [if_neg z, if_neg z, m_fails]
  · rw [if_neg q, if_neg (fun z => q ((oc_m1 (by omega)).mp z)), m_fails]
theorem m_rooms : ∀ (m n a : Nat) (R : RM) (τ : LH), a ≤ e → e < m + a → m + 1 < n → TM τ B e 571 0 → MRm τ R → RB R → match pRoom B e m a R with
    | .inl f => f ≤ e ∧ ∃ a' τ', s_Model_readRoom_60 n 1 (mS τ a (-1) d) = some (mS τ' a' (nI f) d) ∧ FR wRd τ τ'
    | .inr R' => ∃ a' τ', s_Model_readRoom_60 n 1 (mS τ a (-1) d) = some (mS τ' a' (-1) d) ∧ FR wRd τ τ' ∧ MRm τ' R' ∧ RB R' ∧ whR R' = true := by
  intro m
  induction m with
  | zero => intro n a R τ h1 h2; omega
  | succ m ih =>
    intro n a R τ h1 h2 hn h hR hB
    obtain ⟨n, rfl⟩ : ∃ q, n = q + 1 := ⟨n - 1, by omega⟩
    obtain ⟨n, rfl⟩ : ∃ q, n = q + 1 := ⟨n - 1, by omega⟩
    have g1 := sk_le (B := B) h1
    have g2 := sk_ge (B := B) (e := e) (a := a)
    have he := h.2.1
    have hB1 : ∀ i, i < e → 1 ≤ B i := fun i hi => (h.2.2.2.2 i hi).2.1
    have stop : ∀ (f a' : Nat) (τ' : LH), f ≤ e → s_Model_readClause (mS τ a (-1) d) = some (mS τ' a' (nI f) d) → s_Model_readRoom_60 (n + 1 + 1) 1 (mS τ a (-1) d) = some (mS τ' a' (nI f) d) := by
      intro f a' τ' hf hc
      rw [s_Model_readRoom_60]
      unfold s_Model_readRoom_60_b s_Model_readRoom_97 s_Model_readRoom_98
      rw [if_neg (show ¬ (1 : Int32) = 0 by decide), mS_11, if_pos rfl, hc]
      simp only [xb1]
      rw [mS_11, if_neg (nI_m1 (by omega)), if_pos trivial, m_r60F (by omega)]
    have cl := m_rClause (d := d) h hR h1
    rw [pRoom]
    cases hk : kiR (chA B e (sk B e a)) with
    | none =>
      rw [hk] at cl
      exact ⟨g1, _, τ, stop _ _ _ g1 cl, FR.rf⟩
    | some k =>
      rw [hk] at cl
      simp only at cl ⊢
      have hk4 := kiR_lt hk
      have hlt : sk B e a < e := by
        refine Decidable.byContradiction fun q => ?_
        rw [chA_out (by omega)] at hk
        exact absurd hk (show kiR 0 ≠ some k by rw [show kiR 0 = none by decide]; exact fun z => by cases z)
      by_cases q : R.1 k < capR k
      · rw [if_pos q] at cl ⊢
        have cr := m_cRead (d := d) h hR hk4 q hlt
        have pb := pIt_bd (B := B) (e := e) hk4 (e + 1) (sk B e a + 1) 0 (usuR k) (by omega) (by omega) (fun i hi => usuR_bd k hk4 i hi)
        cases hp : pIt B e k (e + 1) (sk B e a + 1) 0 (usuR k) with
        | inl f =>
          rw [hp] at cr pb
          obtain ⟨a', τ', y1, y2⟩ := cr
          exact ⟨pb, a', τ', stop f a' τ' pb (cl.trans y1), y2⟩
        | inr w =>
          rw [hp] at cr pb
          obtain ⟨τ', y1, y2, y3, y4⟩ := cr
          simp only at pb ⊢
          obtain ⟨p1, p2, p3, p4⟩ := pb
          have hB' : RB (addR R k w.1) := hB.add hk4 p4 (fun z => by
            subst z
            have : R.1 3 < 1 := q
            omega)
          have hch := y3.ch (a := w.2)
          have e60 : s_Model_readRoom_60 (n + 1 + 1) 1 (mS τ a (-1) d) = if chA B e w.2 = 59 then s_Model_readRoom_60 (n + 1) 1 (mS τ' (w.2 + 1) (-1) d) else s_Model_readRoom_116 (mS τ' w.2 (-1) d) := by
            rw [s_Model_readRoom_60]
            unfold s_Model_readRoom_60_b s_Model_readRoom_97 s_Model_readRoom_98
            rw [if_neg (show ¬ (1 : Int32) = 0 by decide), mS_11, if_pos rfl, cl, y1]
            simp only [xb1]
            rw [mS_11, if_pos rfl, m_look y3 p2, p3]
            simp only [xb2]
            have o59 : oc (chA B e w.2) = 59 ↔ chA B e w.2 = 59 := oc_eq (k := 59) (by omega) (by omega) (by omega)
            by_cases z : chA B e w.2 = 59
            · rw [if_pos z, if_pos (o59.mpr z), if_neg (show ¬ (1 : Int32) = 0 by decide), mS_10, nI_1, mS_a]
              rfl
            · rw [if_neg z, if_neg (fun x => z (o59.mp x)), if_pos trivial, s_Model_readRoom_60]
              unfold s_Model_readRoom_60_b
              rw [if_pos rfl]
          by_cases z : chA B e w.2 = 59
          · rw [if_pos z] at e60 ⊢
            have hl2 : w.2 < e := chA_lt (B := B) (by omega)
            have i := ih (n + 1) (w.2 + 1) (addR R k w.1) τ' (by omega) (by omega) (by omega) y3 y4 hB'
            cases hr : pRoom B e m (w.2 + 1) (addR R k w.1) with
            | inl f =>
              rw [hr] at i
              obtain ⟨i1, a', τ2, i2, i3⟩ := i
              exact ⟨i1, a', τ2, e60.trans i2, y2.tr i3⟩
            | inr R' =>
              rw [hr] at i
              obtain ⟨a', τ2, i2, i3, i4⟩ := i
              exact ⟨a', τ2, e60.trans i2, y2.tr i3, i4⟩
          · rw [if_neg z] at e60 ⊢
            rw [m_r116 y3 y4 hB' p2 p3 z] at e60
            by_cases z0 : chA B e w.2 = 0
            · have ew := chA_0 hB1 p2 z0
              rw [if_pos z0] at e60 ⊢
              by_cases zw : whR (addR R k w.1) = true
              · rw [if_pos zw] at e60 ⊢
                exact ⟨w.2, τ', e60, y2, y4, hB', zw⟩
              · rw [if_neg zw] at e60 ⊢
                rw [ew] at e60
                exact ⟨Nat.le_refl e, e, τ', e60, y2⟩
            · rw [if_neg z0] at e60 ⊢
              exact ⟨p2, w.2, τ', e60, y2⟩
      · rw [if_neg q] at cl ⊢
        exact ⟨g1, _, τ, stop _ _ _ g1 cl, FR.rf⟩
def wRr (b j : Nat) : Prop := wRd b j ∨ (b = 570 ∧ (j = 8 ∨ j = 9))
theorem m_readRoom {T : Nat} (h6 : τ.1 570 6 = nI T) (hT : T ≤ 240) (hB : ∀ i, i < T → τ.1 571 i = sx (B i) ∧ 1 ≤ B i ∧ B i < 256) : match pRoom B T (T + 1) 0 rmZ with
    | .inl f => f ≤ T ∧ ∃ τ', s_Model_readRoom τ = some τ' ∧ τ'.1 570 11 = nI f ∧ FT wRr τ τ' ∧ τ'.2.1 = τ.2.1
    | .inr R => ∃ τ', s_Model_readRoom τ = some τ' ∧ τ'.1 570 11 = -1 ∧ FT wRr τ τ' ∧ τ'.2.1 = τ.2.1 ∧ MRm τ' R ∧ RB R ∧ whR R = true := by
  obtain ⟨d, hd⟩ := nI_all (τ.1 570 12)
  obtain ⟨τ1, hτ1⟩ : ∃ s, s = stI (stI (stI (stI (stI (stI (stI (stI (stX τ 571) 570 8 0) 570 9 (nI T)) 570 29 0) 570 30 0) 570 31 0) 570 32 0) 582 0 20) 582 1 60 := ⟨_, rfl⟩
  have n1 : ∀ b, b ≠ 570 → b ≠ 582 → τ1.1 b = τ.1 b := fun b h1 h2 => by
    rw [hτ1, stI_n h2, stI_n h2, stI_n h1, stI_n h1, stI_n h1, stI_n h1, stI_n h1, stI_n h1]
    rfl
  have n2 : ∀ j, ¬ (j = 8 ∨ j = 9 ∨ (29 ≤ j ∧ j ≤ 32)) → τ1.1 570 j = τ.1 570 j := fun j hj => by
    rw [hτ1, stI_n (by omega), stI_n (by omega), stI_570, if_neg (by omega), stI_570, if_neg (by omega), stI_570, if_neg (by omega), stI_570, if_neg (by omega), stI_570, if_neg (by omega), stI_570, if_neg (by omega)]
    rfl
  have tm : TM τ1 B T 571 0 := by
    refine ⟨by rw [hτ1]; rfl, Or.inl ⟨rfl, by omega⟩, ?_, ?_, fun i hi => ?_⟩
    · rw [hτ1, stI_n (by omega), stI_n (by omega), stI_570, if_neg (by omega), stI_570, if_neg (by omega), stI_570, if_neg (by omega), stI_570, if_neg (by omega), stI_570, if_neg (by omega), stI_570, if_pos rfl]
      rfl
    · rw [hτ1, stI_n (by omega), stI_n (by omega), stI_570, if_neg (by omega), stI_570, if_neg (by omega), stI_570, if_neg (by omega), stI_570, if_neg (by omega), stI_570, if_pos rfl]
    · rw [n1 571 (by omega) (by omega), Nat.zero_add]
      exact hB i hi
  have mr : MRm τ1 rmZ := by
    intro k hk
    refine ⟨?_, Nat.zero_le _, fun r i hr hi => ?_⟩
    · show τ1.1 570 (29 + k) = 0
      rw [hτ1, stI_n (by omega), stI_n (by omega)]
      rcases (show k = 0 ∨ k = 1 ∨ k = 2 ∨ k = 3 by omega) with rfl | rfl | rfl | rfl
      · rw [stI_570, if_neg (by omega), stI_570, if_neg (by omega), stI_570, if_neg (by omega), stI_570, if_pos rfl]
      · rw [stI_570, if_neg (by omega), stI_570, if_neg (by omega), stI_570, if_pos rfl]
      · rw [stI_570, if_neg (by omega), stI_570, if_pos rfl]
      · rw [stI_570, if_pos rfl]
    · have hr' : r < 0 ∨ (k = 3 ∧ r = 0) := hr
      have hk3 : k = 3 := by omega
      have hr0 : r = 0 := by omega
      subst hk3
      subst hr0
      have : i < 2 := hi
      show τ1.1 582 (2 * 0 + i) = nI (usuR 3 i)
      rw [hτ1, stI_e, stI_e]
      rcases (show i = 0 ∨ i = 1 by omega) with rfl | rfl
      · rw [if_neg (by omega), if_pos (by omega)]; rfl
      · rw [if_pos (by omega)]; rfl
  have ft : FT wRr τ τ1 := by
    refine ⟨fun b j q => ?_, fun b _ => by rw [hτ1]; rfl, by rw [hτ1]; rfl⟩
    unfold wRr wRd at q
    by_cases z : b = 570
    · subst z
      exact n2 j (by omega)
    · exact congrFun (n1 b z (by omega)) j
  have run : s_Model_readRoom τ = s_Model_readRoom_60 FUEL 1 (mS τ1 0 (-1) d) := by
    have e1 : mS τ1 0 (-1) d = stI (stI (stI (stI (stI (stI (stI (stI (stI (stI (stX τ 571) 570 8 0) 570 9 (nI T)) 570 10 0) 570 11 (-1)) 570 29 0) 570 30 0) 570 31 0) 570 32 0) 582 0 20) 582 1 60 := by
      have d12 : ∀ s : LH, s.1 570 12 = nI d → stI s 570 12 (nI d) = s := fun s hs => by
        unfold stI
        have : upd (s.1 570) 12 (nI d) = s.1 570 := by
          funext j
          rw [upd_e]
          by_cases q : j = 12
          · rw [if_pos q, q, hs]
          · rw [if_neg q]
        rw [this, stF_id]
      unfold mS
      rw [d12 _ (by rw [stI_570, if_neg (by omega), stI_570, if_neg (by omega), n2 12 (by omega)]; exact hd), hτ1, nI_0]
      rw [stII (b := 570) (c := 582) (by omega), stII (b := 570) (c := 582) (by omega), stII (b := 570) (c := 582) (by omega), stII (b := 570) (c := 582) (by omega)]
      rw [stI_cm (i := 32) (j := 10) (by omega), stI_cm (i := 31) (j := 10) (by omega), stI_cm (i := 30) (j := 10) (by omega), stI_cm (i := 29) (j := 10) (by omega)]
      rw [stI_cm (i := 32) (j := 11) (by omega), stI_cm (i := 31) (j := 11) (by omega), stI_cm (i := 30) (j := 11) (by omega), stI_cm (i := 29) (j := 11) (by omega)]
    rw [e1]
    unfold s_Model_readRoom s_Model_starts
    simp only [xl, xb1]
    rw [h6, show FUEL = 99997 + 1 + 1 + 1 from rfl, s_Model_readRoom_35]
    unfold s_Model_readRoom_35_b
    rw [if_neg (show ¬ (2 : Int32) ≤ 0 by decide)]
    have us : ∀ (i : Nat) (s : LH), i < 2 → s_Model_usual 101 (nI i) s = some (nI (usuR 3 i), s) := fun i s hi => m_usual (k := 3) (by omega) hi
    rw [show s_Model_usual 101 0 _ = _ from us 0 _ (by omega)]
    simp only [xb2]
    rw [if_pos (show ib 0 2 by decide)]
    simp only [xl]
    rw [s_Model_readRoom_35]
    unfold s_Model_readRoom_35_b
    rw [if_neg (show ¬ (2 : Int32) ≤ 0 + 1 by decide), show s_Model_usual 101 (0 + 1) _ = _ from us 1 _ (by omega)]
    simp only [xb2]
    rw [if_pos (show ib (0 + 1) 2 by decide)]
    simp only [xl]
    rw [s_Model_readRoom_35]
    unfold s_Model_readRoom_35_b
    rw [if_pos (show (2 : Int32) ≤ 0 + 1 + 1 by decide)]
    rfl
  rw [run]
  have m := m_rooms (B := B) (e := T) (d := d) (T + 1) FUEL 0 rmZ τ1 (by omega) (by omega) (by unfold FUEL; omega) tm mr RB.z
  cases hp : pRoom B T (T + 1) 0 rmZ with
  | inl f =>
    rw [hp] at m
    obtain ⟨m1, a', τ', m2, m3⟩ := m
    have m4 := m3.tr (FR.mS (a := a') (f := nI f) (d := d))
    refine ⟨m1, _, m2, mS_11, ft.tr ?_, by rw [m4.2, hτ1]; rfl⟩
    exact ⟨fun b j q => m4.1 b j (fun z => q (Or.inl z)), fun _ _ => by rw [m4.2], by rw [m4.2]⟩
  | inr R =>
    rw [hp] at m
    obtain ⟨a', τ', m2, m3, m5, m6⟩ := m
    have m4 := m3.tr (FR.mS (a := a') (f := -1) (d := d))
    refine ⟨_, m2, mS_11, ft.tr ?_, by rw [m4.2, hτ1]; rfl, m5.mS, m6⟩
    exact ⟨fun b j q => m4.1 b j (fun z => q (Or.inl z)), fun _ _ => by rw [m4.2], by rw [m4.2]⟩
end
