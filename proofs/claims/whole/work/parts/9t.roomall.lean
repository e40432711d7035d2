/-! the class reads a room: all of it -/
section
variable {σ σ' : LH} {B : Nat → Nat} {e a k rm : Nat} {R : RM} {f : Int32}
theorem r_54F {g : Nat} (hg : g < 2 ^ 31) : s_RoomReader_read_54 rm (tS σ a (nI g)) = some (nI g, tS σ a (nI g)) := by
  unfold s_RoomReader_read_54 s_RoomReader_read_85
  rw [r_fine, if_neg (nI_m1 hg)]
  simp only [xb2]
  rw [if_pos trivial, tS_w]
theorem r_54 (h : TT σ B e) (hR : CRm σ rm R) (hB : RB R) (hrm : 4 ≤ rm) : s_RoomReader_read_54 rm (tS σ a (-1)) = if whR R = true then some (-1, tS σ a (-1)) else some (nI e, tS σ a (nI e)) := by
  unfold s_RoomReader_read_54 s_RoomReader_read_85
  rw [r_fine, if_pos rfl]
  simp only [xb2]
  rw [if_neg (show ¬ (1 : Int32) = 0 by decide), r_whole (hR.tS hrm) hB]
  simp only [ite10]
  by_cases q : whR R = true
  · rw [if_pos q, if_pos q, tS_w]
  · rw [if_neg q, if_neg q, (h.tS (a := a) (f := -1)).2.1, r_fail]
    simp only [xb1]
    rw [tS_w]
theorem r_loop (hrm : 4 ≤ rm) (hr27 : rm + 10 < 27) : ∀ (m N a y : Nat) (R : RM) (σ : LH), a ≤ e → e < m + a → m + 1 < N → 2 * y ≤ a → TT σ B e → CRm σ rm R → RB R → match pRoom B e m a R with
    | .inl f => ∃ a' σ', s_RoomReader_read_31 rm N 1 (nI y) (tS σ a (-1)) = some (nI f, tS σ' a' (nI f)) ∧ FR (wRc rm) σ σ'
    | .inr R' => ∃ a' σ', s_RoomReader_read_31 rm N 1 (nI y) (tS σ a (-1)) = some (-1, tS σ' a' (-1)) ∧ FR (wRc rm) σ σ' ∧ CRm σ' rm R' := by
  intro m
  induction m with
  | zero => intro N a y R σ h1 h2; omega
  | succ m ih =>
    intro N a y R σ h1 h2 hN hy h hR hB
    obtain ⟨N, rfl⟩ : ∃ q, N = q + 1 := ⟨N - 1, by omega⟩
    obtain ⟨N, rfl⟩ : ∃ q, N = q + 1 := ⟨N - 1, by omega⟩
    have g1 := sk_le (B := B) h1
    have g2 := sk_ge (B := B) (e := e) (a := a)
    have he := h.1
    have hB1 : ∀ i, i < e → 1 ≤ B i := fun i hi => (h.2.2 i hi).2.1
    have cl := r_cls h hR hrm hr27 h1
    have step : ∀ (r : Int32) (s : LH), s_RoomReader_readClause rm (tS σ a (-1)) = some (r, s) → s_RoomReader_read_31 rm (N + 1 + 1) 1 (nI y) (tS σ a (-1)) = s_RoomReader_read_31 rm (N + 1) r (nI (y + 1)) s := by
      intro r s hc
      rw [s_RoomReader_read_31]
      unfold s_RoomReader_read_31_b
      rw [if_neg (show ¬ (1 : Int32) = 0 by decide), if_neg (show ¬ (240 : Int32) ≤ nI y from nI_ge (b := 240) (by omega) (by omega)), hc]
      simp only [xb2, xl]
      rw [nI_1]
    have last : ∀ s : LH, s_RoomReader_read_31 rm (N + 1) 0 (nI (y + 1)) s = s_RoomReader_read_54 rm s := by
      intro s
      rw [s_RoomReader_read_31]
      unfold s_RoomReader_read_31_b
      rw [if_pos rfl]
    rw [pRoom]
    cases hk : kiR (chA B e (sk B e a)) with
    | none =>
      rw [hk] at cl
      exact ⟨_, σ, (step _ _ cl).trans ((last _).trans (r_54F (by omega))), FR.rf⟩
    | some k =>
      rw [hk] at cl
      simp only at cl ⊢
      have hk4 := kiR_lt hk
      have hlt : sk B e a < e := by
        refine Decidable.byContradiction fun q => ?_
        rw [chA_out (by omega)] at hk
        exact absurd hk (show kiR 0 ≠ some k by rw [show kiR 0 = none by decide]; exact fun z => by cases z)
      by_cases q : R.1 k < capR k
      · rw [if_pos q] at cl ⊢
        have pb := pIt_bd (B := B) (e := e) hk4 (e + 1) (sk B e a + 1) 0 (usuR k) (by omega) (by omega) (fun i hi => usuR_bd k hk4 i hi)
        cases hp : pIt B e k (e + 1) (sk B e a + 1) 0 (usuR k) with
        | inl f =>
          rw [hp] at cl pb
          obtain ⟨a', σ', y1, y2⟩ := cl
          exact ⟨a', σ', (step _ _ y1).trans ((last _).trans (r_54F (by simp only at pb; omega))), y2⟩
        | inr w =>
          rw [hp] at cl pb
          simp only at cl pb ⊢
          obtain ⟨p1, p2, p3, p4⟩ := pb
          have hB' : RB (addR R k w.1) := hB.add hk4 p4 (fun z => by
            subst z
            have : R.1 3 < 1 := q
            omega)
          by_cases z : chA B e w.2 = 59
          · rw [if_pos z] at cl ⊢
            obtain ⟨σ', y1, y2, y4⟩ := cl
            have hl2 : w.2 < e := chA_lt (B := B) (by omega)
            have i := ih (N + 1) (w.2 + 1) (y + 1) (addR R k w.1) σ' (by omega) (by omega) (by omega) (by omega) (h.rd y2 hrm) y4 hB'
            cases hr : pRoom B e m (w.2 + 1) (addR R k w.1) with
            | inl f =>
              rw [hr] at i
              obtain ⟨a', σ2, i2, i3⟩ := i
              exact ⟨a', σ2, (step _ _ y1).trans i2, y2.tr i3⟩
            | inr R' =>
              rw [hr] at i
              obtain ⟨a', σ2, i2, i3, i4⟩ := i
              exact ⟨a', σ2, (step _ _ y1).trans i2, y2.tr i3, i4⟩
          · rw [if_neg z] at cl ⊢
            by_cases z0 : chA B e w.2 = 0
            · rw [if_pos z0] at cl ⊢
              obtain ⟨σ', y1, y2, y4⟩ := cl
              have e54 := r_54 (a := w.2) (h.rd y2 hrm) y4 hB' hrm
              by_cases zw : whR (addR R k w.1) = true
              · rw [if_pos zw] at e54 ⊢
                exact ⟨w.2, σ', (step _ _ y1).trans ((last _).trans e54), y2, y4⟩
              · rw [if_neg zw] at e54 ⊢
                exact ⟨w.2, σ', (step _ _ y1).trans ((last _).trans e54), y2⟩
            · rw [if_neg z0] at cl ⊢
              obtain ⟨σ', y1, y2⟩ := cl
              exact ⟨w.2, σ', (step _ _ y1).trans ((last _).trans (r_54F (by omega))), y2⟩
      · rw [if_neg q] at cl ⊢
        exact ⟨_, σ, (step _ _ cl).trans ((last _).trans (r_54F (by omega))), FR.rf⟩
theorem r_read (h : TT σ B e) (hrm : 4 ≤ rm) (hr27 : rm + 10 < 27) : match pRoom B e (e + 1) 0 rmZ with
    | .inl f => ∃ σ', s_RoomReader_read rm σ = some (nI f, σ') ∧ FR (wRc rm) σ σ'
    | .inr R => ∃ σ', s_RoomReader_read rm σ = some (-1, σ') ∧ FR (wRc rm) σ σ' ∧ CRm σ' rm R := by
  obtain ⟨σ1, hσ1⟩ : ∃ s, s = stI (stI (stI (stI (stI (stI σ rm 0 0) rm 1 0) rm 2 0) rm 3 0) rm 14 20) rm 15 60 := ⟨_, rfl⟩
  have f1 : FR (wRc rm) σ σ1 := by
    rw [hσ1]
    exact (((((FR.I (by unfold wRc; omega)).tr (FR.I (by unfold wRc; omega))).tr (FR.I (by unfold wRc; omega))).tr (FR.I (by unfold wRc; omega))).tr (FR.I (by unfold wRc; omega))).tr (FR.I (by unfold wRc; omega))
  have c1 : CRm σ1 rm rmZ := by
    refine ⟨fun k hk => ⟨?_, Nat.zero_le _⟩, fun k hk r hr => absurd hr (Nat.not_lt_zero r), ?_, ?_⟩
    · show σ1.1 rm k = 0
      rw [hσ1, stI_e, if_neg (by omega), stI_e, if_neg (by omega), stI_e]
      by_cases q3 : k = 3
      · rw [if_pos q3]
      · rw [if_neg q3, stI_e]
        by_cases q2 : k = 2
        · rw [if_pos q2]
        · rw [if_neg q2, stI_e]
          by_cases q1 : k = 1
          · rw [if_pos q1]
          · rw [if_neg q1, stI_e, if_pos (by omega)]
    · rw [hσ1, stI_e, if_neg (by omega), stI_e, if_pos rfl]
      rfl
    · rw [hσ1, stI_e, if_pos rfl]
      rfl
  have run : s_RoomReader_read rm σ = s_RoomReader_read_31 rm FUEL 1 (nI 0) (tS σ1 0 (-1)) := by
    unfold s_RoomReader_read s_Tape_rewind s_Room_clear s_Room_setEvening
    simp only [xl, xb1]
    rw [if_pos (show ib 12 16 by decide), if_pos (show ib 13 16 by decide)]
    have e1 : stI (stI σ 2 2 0) 2 3 (-1) = tS σ 0 (-1) := rfl
    rw [e1, tS_st (by omega), tS_st (by omega), tS_st (by omega), tS_st (by omega)]
    rw [show (xtab.getD 2 []).getD (Int32.toNatClampNeg 12) 0 = 20 by decide, show (xtab.getD 2 []).getD (Int32.toNatClampNeg 13) 0 = 60 by decide]
    rw [tS_st (by omega), tS_st (by omega), hσ1]
    rfl
  have he := h.1
  have m := r_loop hrm hr27 (e + 1) FUEL 0 0 rmZ σ1 (by omega) (by omega) (by unfold FUEL; omega) (by omega) (h.rd f1 hrm) c1 RB.z
  rw [← run] at m
  cases hp : pRoom B e (e + 1) 0 rmZ with
  | inl f =>
    rw [hp] at m
    obtain ⟨a', σ', m1, m2⟩ := m
    exact ⟨_, m1, f1.tr (m2.tr FR.tS)⟩
  | inr R =>
    rw [hp] at m
    obtain ⟨a', σ', m1, m2, m3⟩ := m
    exact ⟨_, m1, f1.tr (m2.tr FR.tS), m3.tS hrm⟩
end
