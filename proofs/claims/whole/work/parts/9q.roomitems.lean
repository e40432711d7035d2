/-! the class reads a room: the items of a clause -/
section
variable {σ : LH} {B : Nat → Nat} {e a k : Nat} {I : Nat → Int32}
theorem TT.F {b : Nat} (h : TT σ B e) (hb : b ≠ 2 ∧ b ≠ 3) : TT (stF σ b I) B e := by
  obtain ⟨h1, h2, h3⟩ := h
  exact ⟨h1, by rw [stF_n (by omega)]; exact h2, fun i hi => by rw [stF_n (by omega)]; exact h3 i hi⟩
theorem tS_st {b i : Nat} {v f : Int32} (hb : b ≠ 2) : stI (tS σ a f) b i v = tS (stI σ b i v) a f := by
  unfold tS
  rw [stII hb, stII hb]
theorem stF_st {b i : Nat} {v : Int32} : stI (stF σ b I) b i v = stF σ b (upd I i v) := by
  unfold stI
  rw [stF_s, stF_F]
theorem r_over (h : TT σ B e) (ha : a ≤ e) : s_RoomReader_isClauseOver (tS σ a (-1)) = some (if chA B e (sk B e a) = 0 ∨ chA B e (sk B e a) = 59 then 1 else 0, tS σ (sk B e a) (-1)) := by
  have g1 := sk_le (B := B) ha
  have hch := h.ch (a := sk B e a)
  have o59 : oc (chA B e (sk B e a)) = 59 ↔ chA B e (sk B e a) = 59 := oc_eq (k := 59) (by omega) (by omega) (by omega)
  have om : oc (chA B e (sk B e a)) = -1 ↔ chA B e (sk B e a) = 0 := oc_m1 (by omega)
  unfold s_RoomReader_isClauseOver s_RoomReader_isClauseOver_33 s_RoomReader_isClauseOver_38
  rw [r_fine, if_pos rfl]
  simp only [xb2]
  rw [if_neg (show ¬ (1 : Int32) = 0 by decide), r_sign h ha]
  simp only
  by_cases q : chA B e (sk B e a) = 0
  · rw [if_pos (om.mpr q), if_pos (show zb 1 from Or.inr rfl), if_pos (Or.inl q)]
  · rw [if_neg (fun z => q (om.mp z)), r_sign h g1, sk_sk ha]
    simp only
    by_cases q2 : chA B e (sk B e a) = 59
    · rw [if_pos (o59.mpr q2), if_pos (show zb 1 from Or.inr rfl), if_pos (Or.inr q2)]
    · rw [if_neg (fun z => q2 (o59.mp z)), if_pos (show zb 0 from Or.inl rfl), if_neg (fun z => z.elim q q2)]
theorem r_overF {g : Nat} (hg : g < 2 ^ 31) : s_RoomReader_isClauseOver (tS σ a (nI g)) = some (1, tS σ a (nI g)) := by
  unfold s_RoomReader_isClauseOver s_RoomReader_isClauseOver_33 s_RoomReader_isClauseOver_38
  rw [r_fine, if_neg (nI_m1 hg)]
  simp only [xb2]
  rw [if_pos trivial, if_pos (show zb 1 from Or.inr rfl)]
theorem r_letk (h : TT σ B e) (ha : a ≤ e) {f : Int32} (hk : k < 4) : s_Tape_letter (k + 2) (tS σ a f) = some (oI (spotR k (chA B e (sk B e a))), tS σ (sk B e a) f) := by
  rw [r_letter h ha]
  by_cases q : chA B e (sk B e a) = 0
  · rw [if_pos q, q, (spotR_0 k hk).1]; rfl
  · rw [if_neg q, jx_k k hk _ h.ch q]
theorem r_let1 (h : TT σ B e) (ha : a ≤ e) {f : Int32} : s_Tape_letter 1 (tS σ a f) = some (oI (kiR (chA B e (sk B e a))), tS σ (sk B e a) f) := by
  rw [r_letter h ha]
  by_cases q : chA B e (sk B e a) = 0
  · rw [if_pos q, q]; rfl
  · rw [if_neg q, jx_1 _ h.ch q]
theorem r_num2 (h : TT σ B e) (ha : a ≤ e) : match pN2 B e a with
    | .inl f => ∃ v, s_Tape_number 2 (tS σ a (-1)) = some (v, tS σ f (nI f))
    | .inr q => s_Tape_number 2 (tS σ a (-1)) = some (nI q.1, tS σ q.2 (-1)) := by
  have n := r_number (L := 2) h (by omega) ha
  rw [show nI 2 = 2 from rfl] at n
  unfold pN2
  by_cases q : 48 ≤ chA B e (sk B e a) ∧ chA B e (sk B e a) ≤ 57
  · rw [if_pos q] at n ⊢
    by_cases q2 : 48 ≤ chA B e (pdN B e 2 (sk B e a) 0).2 ∧ chA B e (pdN B e 2 (sk B e a) 0).2 ≤ 57
    · rw [if_pos q2] at n ⊢
      exact ⟨_, n⟩
    · rw [if_neg q2] at n ⊢
      exact n
  · rw [if_neg q] at n ⊢
    exact ⟨_, n⟩
theorem r_ltr {f : Int32} (hk : k < 4) : s_RoomReader_lettersOf (nI k) (tS σ a f) = some (k + 2, tS σ a f) := by
  unfold s_RoomReader_lettersOf
  rcases (show k = 0 ∨ k = 1 ∨ k = 2 ∨ k = 3 by omega) with rfl | rfl | rfl | rfl
  · rw [if_pos (show (nI 0).toInt = 0 by decide)]
  · rw [if_neg (show ¬ (nI 1).toInt = 0 by decide), if_pos (show (nI 1).toInt = 1 by decide)]
  · rw [if_neg (show ¬ (nI 2).toInt = 0 by decide), if_neg (show ¬ (nI 2).toInt = 1 by decide), if_pos (show (nI 2).toInt = 2 by decide)]
  · rw [if_neg (show ¬ (nI 3).toInt = 0 by decide), if_neg (show ¬ (nI 3).toInt = 1 by decide), if_neg (show ¬ (nI 3).toInt = 2 by decide)]
theorem xt_k : ∀ k, k < 4 → ∀ i, i < 4 → (xtab.getD 0 []).getD (4 * k + i) 0 = nI (lstR k i) ∧ (xtab.getD 1 []).getD (4 * k + i) 0 = nI (mstR k i) ∧ (xtab.getD 2 []).getD (4 * k + i) 0 = nI (usuR k i) := by decide +kernel
/-- a fault stands: the loop is over -/
theorem r_itF {g N : Nat} {p0 b s : Int32} {y : Nat} (hg : g < 2 ^ 31) (hy : y < 2 ^ 31) : s_RoomReader_readItems_48 p0 (N + 1) b s (nI y) (tS σ a (nI g)) = some (tS σ a (nI g)) := by
  rw [s_RoomReader_readItems_48]
  unfold s_RoomReader_readItems_48_b s_RoomReader_readItems_216
  rw [r_overF hg]
  simp only [xb2]
  rw [if_neg (show ¬ (1 : Int32) = 0 by decide), ite_self]
theorem r_187F {g N : Nat} {p0 b s z : Int32} {y : Nat} (hg : g < 2 ^ 31) (hy : y + 1 < 2 ^ 31) : s_RoomReader_readItems_187 p0 (s_RoomReader_readItems_48 p0 (N + 1)) b s (nI y) z (tS σ a (nI g)) = some (tS σ a (nI g)) := by
  unfold s_RoomReader_readItems_187 s_RoomReader_readItems_210
  rw [r_failF hg]
  simp only [xb1, xl]
  rw [nI_1, r_itF hg hy, ite_self]
theorem r_items (h : TT σ B e) (hk : k < 4) : ∀ (n N a y : Nat) (se : Int32) (it : Nat → Nat) (I : Nat → Int32), a ≤ e → e < n + a → n + 1 < N → y < a → (∀ j, j < 4 → I j = nI (it j)) → match pIt B e k n a se it with
    | .inl f => ∃ a' I', s_RoomReader_readItems_48 (nI k) N (nI (4 * k)) se (nI y) (tS (stF σ 27 I) a (-1)) = some (tS (stF σ 27 I') a' (nI f))
    | .inr q => if chA B e q.2 = 0 ∨ chA B e q.2 = 59 then ∃ I', (∀ j, j < 4 → I' j = nI (q.1 j)) ∧ s_RoomReader_readItems_48 (nI k) N (nI (4 * k)) se (nI y) (tS (stF σ 27 I) a (-1)) = some (tS (stF σ 27 I') q.2 (-1)) else ∃ I', s_RoomReader_readItems_48 (nI k) N (nI (4 * k)) se (nI y) (tS (stF σ 27 I) a (-1)) = some (tS (stF σ 27 I') q.2 (nI q.2)) := by
  have he := h.1
  intro n
  induction n with
  | zero => intro N a y se it I h1 h2; omega
  | succ n ih =>
    intro N a y se it I h1 h2 hN hy hI
    obtain ⟨N, rfl⟩ : ∃ q, N = q + 1 := ⟨N - 1, by omega⟩
    obtain ⟨N, rfl⟩ : ∃ q, N = q + 1 := ⟨N - 1, by omega⟩
    have g1 := sk_le (B := B) h1
    have g2 := sk_ge (B := B) (e := e) (a := a)
    have hF := h.F (I := I) (b := 27) (by omega)
    rw [pIt]
    -- the loop's step, where the clause is not over
    have stp : ¬ (chA B e (sk B e a) = 0 ∨ chA B e (sk B e a) = 59) → s_RoomReader_readItems_48 (nI k) (N + 1 + 1) (nI (4 * k)) se (nI y) (tS (stF σ 27 I) a (-1)) = match spotR k (chA B e (sk B e a)) with
        | none => some (tS (stF σ 27 I) (sk B e a) (nI (sk B e a)))
        | some i => if ((se >>> (nI i &&& 31)) &&& 1) = 0 then xb2 (s_Tape_number 2 (tS (stF σ 27 I) (sk B e a + 1) (-1))) (fun r s => if (stI s 27 i r).1 27 i < nI (lstR k i) then s_RoomReader_readItems_187 (nI k) (s_RoomReader_readItems_48 (nI k) (N + 1)) (nI (4 * k)) (se ||| (1 <<< (nI i &&& 31))) (nI y) 0 (stI s 27 i r) else if nI (mstR k i) < (stI s 27 i r).1 27 i then s_RoomReader_readItems_187 (nI k) (s_RoomReader_readItems_48 (nI k) (N + 1)) (nI (4 * k)) (se ||| (1 <<< (nI i &&& 31))) (nI y) 0 (stI s 27 i r) else s_RoomReader_readItems_187 (nI k) (s_RoomReader_readItems_48 (nI k) (N + 1)) (nI (4 * k)) (se ||| (1 <<< (nI i &&& 31))) (nI y) 1 (stI s 27 i r)) else some (tS (stF σ 27 I) (sk B e a) (nI (sk B e a))) := by
      intro hov
      have f96 : s_RoomReader_readItems_96 (nI k) (tS (stF σ 27 I) (sk B e a) (-1)) = some (tS (stF σ 27 I) (sk B e a) (nI (sk B e a))) := by
        unfold s_RoomReader_readItems_96
        rw [tS_a, r_fail]
        rfl
      rw [s_RoomReader_readItems_48]
      unfold s_RoomReader_readItems_48_b s_RoomReader_readItems_186
      rw [if_neg (show ¬ (240 : Int32) ≤ nI y from nI_ge (b := 240) (by omega) (by omega)), r_over hF h1, if_neg hov]
      simp only [xb2]
      rw [if_pos trivial, r_ltr hk]
      simp only
      rw [r_letk hF g1 hk, sk_sk h1]
      simp only
      cases hs : spotR k (chA B e (sk B e a)) with
      | none =>
        rw [show oI none = -1 from rfl, if_pos (show (-1 : Int32) < 0 by decide), f96]
      | some i =>
        have hi : i < nKR k := spotR_lt k hk _ h.ch i hs
        have hi4 : i < 4 := by have := nKR_le hk; omega
        rw [show oI (some i) = nI i from rfl, if_neg (nI_pos (by omega)), if_neg (show ¬ (4 : Int32) ≤ nI i from nI_ge (b := 4) hi4 (by omega)), f96]
        simp only
        by_cases q : ((se >>> (nI i &&& 31)) &&& 1) = 0
        · rw [if_pos q, if_pos q]
          simp only [xl]
          rw [tS_a, nI_1, tS_sa, nI_add]
          simp only [if_pos (ib_nI hi4 (show 4 < 2 ^ 31 by omega)), if_pos (ib_nI (show 4 * k + i < 16 by omega) (show 16 < 2 ^ 31 by omega)), nI_clamp (show i < 2 ^ 31 by omega), nI_clamp (show 4 * k + i < 2 ^ 31 by omega), (xt_k k hk i hi4).1, (xt_k k hk i hi4).2.1]
        · rw [if_neg q, if_neg q]
    have ovr : (chA B e (sk B e a) = 0 ∨ chA B e (sk B e a) = 59) → s_RoomReader_readItems_48 (nI k) (N + 1 + 1) (nI (4 * k)) se (nI y) (tS (stF σ 27 I) a (-1)) = some (tS (stF σ 27 I) (sk B e a) (-1)) := by
      intro hov
      rw [s_RoomReader_readItems_48]
      unfold s_RoomReader_readItems_48_b s_RoomReader_readItems_216
      rw [if_neg (show ¬ (240 : Int32) ≤ nI y from nI_ge (b := 240) (by omega) (by omega)), r_over hF h1, if_pos hov]
      simp only [xb2]
      rw [if_neg (show ¬ (1 : Int32) = 0 by decide)]
    cases hs : spotR k (chA B e (sk B e a)) with
    | none =>
      simp only
      by_cases q : chA B e (sk B e a) = 0 ∨ chA B e (sk B e a) = 59
      · rw [if_pos q]
        exact ⟨I, hI, ovr q⟩
      · rw [if_neg q]
        have := stp q
        rw [hs] at this
        exact ⟨I, this⟩
    | some i =>
      have g3 := spot_in hk hs
      have hi : i < nKR k := spotR_lt k hk _ h.ch i hs
      have hi4 : i < 4 := by have := nKR_le hk; omega
      have nov : ¬ (chA B e (sk B e a) = 0 ∨ chA B e (sk B e a) = 59) := by
        intro z
        rcases z with z | z
        · rw [z, (spotR_0 k hk).1] at hs; cases hs
        · rw [z, (spotR_0 k hk).2] at hs; cases hs
      have st := stp nov
      rw [hs] at st
      simp only at st ⊢
      by_cases q : ((se >>> (nI i &&& 31)) &&& 1) = 0
      · rw [if_pos q] at st ⊢
        have hb2 := pN2_bd (B := B) (e := e) (a := sk B e a + 1) (by omega)
        have hn2 := r_num2 hF (show sk B e a + 1 ≤ e by omega)
        have w27 : ∀ (a' : Nat) (f v : Int32), stI (tS (stF σ 27 I) a' f) 27 i v = tS (stF σ 27 (upd I i v)) a' f := fun a' f v => by rw [tS_st (by omega), stF_st]
        have v27 : ∀ (a' : Nat) (f v : Int32), (tS (stF σ 27 (upd I i v)) a' f).1 27 i = v := fun a' f v => by rw [tS_n (by omega), stF_s, pk_us]
        cases hn : pN2 B e (sk B e a + 1) with
        | inl f =>
          rw [hn] at hb2 hn2
          obtain ⟨v, hv⟩ := hn2
          rw [hv] at st
          simp only [xb2] at st ⊢
          have hf : f < 2 ^ 31 := by simp only at hb2; omega
          rw [w27, v27, r_187F hf (by omega), r_187F hf (by omega), ite_self, ite_self] at st
          exact ⟨_, _, st⟩
        | inr v =>
          rw [hn] at hb2 hn2
          simp only at hb2 hn2 ⊢
          rw [hn2] at st
          simp only [xb2] at st
          rw [w27, v27] at st
          have hm := mstR_lt k hk i hi4
          have bad : s_RoomReader_readItems_187 (nI k) (s_RoomReader_readItems_48 (nI k) (N + 1)) (nI (4 * k)) (se ||| (1 <<< (nI i &&& 31))) (nI y) 0 (tS (stF σ 27 (upd I i (nI v.1))) v.2 (-1)) = some (tS (stF σ 27 (upd I i (nI v.1))) v.2 (nI (v.2 - 1))) := by
            obtain ⟨z, hz⟩ : ∃ z, v.2 = z + 1 := ⟨v.2 - 1, by omega⟩
            unfold s_RoomReader_readItems_187 s_RoomReader_readItems_210
            rw [if_pos rfl, tS_a, hz, nI_pred, r_fail]
            simp only [xb1, xl]
            rw [nI_1, r_itF (by omega) (by omega)]
            rfl
          by_cases q2 : lstR k i ≤ v.1 ∧ v.1 ≤ mstR k i
          · rw [if_pos q2]
            rw [if_neg (show ¬ nI v.1 < nI (lstR k i) from nI_nlt (by omega) (by omega)), if_neg (show ¬ nI (mstR k i) < nI v.1 from nI_nlt (by omega) (by omega))] at st
            have e1 : s_RoomReader_readItems_187 (nI k) (s_RoomReader_readItems_48 (nI k) (N + 1)) (nI (4 * k)) (se ||| (1 <<< (nI i &&& 31))) (nI y) 1 (tS (stF σ 27 (upd I i (nI v.1))) v.2 (-1)) = s_RoomReader_readItems_48 (nI k) (N + 1) (nI (4 * k)) (se ||| (1 <<< (nI i &&& 31))) (nI (y + 1)) (tS (stF σ 27 (upd I i (nI v.1))) v.2 (-1)) := by
              unfold s_RoomReader_readItems_187 s_RoomReader_readItems_210
              rw [if_neg (show ¬ (1 : Int32) = 0 by decide)]
              simp only [xl]
              rw [nI_1]
            rw [e1] at st
            have i2 := ih (N + 1) v.2 (y + 1) (se ||| (1 <<< (nI i &&& 31))) (fun j => if j = i then v.1 else it j) (upd I i (nI v.1)) hb2.2.1 (by omega) (by omega) (by omega) (fun j hj => by
              by_cases z : j = i
              · rw [if_pos z, z, pk_us]
              · rw [if_neg z, pk_un (by omega)]; exact hI j hj)
            rw [st]
            exact i2
          · rw [if_neg q2]
            refine ⟨v.2, upd I i (nI v.1), st.trans ?_⟩
            by_cases q3 : v.1 < lstR k i
            · rw [if_pos (nI_lt q3 (by omega))]
              exact bad
            · rw [if_neg (show ¬ nI v.1 < nI (lstR k i) from nI_nlt (by omega) (by omega)), if_pos (nI_lt (show mstR k i < v.1 by omega) (by omega))]
              exact bad
      · rw [if_neg q] at st ⊢
        exact ⟨_, _, st⟩
theorem r_rItems (h : TT σ B e) (hk : k < 4) (ha : a ≤ e) (ha0 : 0 < a) : match pIt B e k (e + 1) a 0 (usuR k) with
    | .inl f => ∃ a' I', s_RoomReader_readItems (nI k) (tS (stF σ 27 I) a (-1)) = some (tS (stF σ 27 I') a' (nI f))
    | .inr q => if chA B e q.2 = 0 ∨ chA B e q.2 = 59 then ∃ I', (∀ j, j < 4 → I' j = nI (q.1 j)) ∧ s_RoomReader_readItems (nI k) (tS (stF σ 27 I) a (-1)) = some (tS (stF σ 27 I') q.2 (-1)) else ∃ I', s_RoomReader_readItems (nI k) (tS (stF σ 27 I) a (-1)) = some (tS (stF σ 27 I') q.2 (nI q.2)) := by
  have he := h.1
  have fill : ∀ (r N y : Nat) (I : Nat → Int32), y + r = 4 → r < N → (∀ j, j < y → I j = nI (usuR k j)) → ∃ I', (∀ j, j < 4 → I' j = nI (usuR k j)) ∧ s_RoomReader_readItems_19 (nI k) N (nI (4 * k)) (nI y) (tS (stF σ 27 I) a (-1)) = s_RoomReader_readItems_48 (nI k) FUEL (nI (4 * k)) 0 (nI 0) (tS (stF σ 27 I') a (-1)) := by
    intro r
    induction r with
    | zero =>
      intro N y I hy hN hI
      obtain ⟨N, rfl⟩ : ∃ q, N = q + 1 := ⟨N - 1, by omega⟩
      refine ⟨I, fun j hj => hI j (by omega), ?_⟩
      rw [s_RoomReader_readItems_19]
      unfold s_RoomReader_readItems_19_b
      rw [if_pos (show (4 : Int32) ≤ nI y from nI_le (a := 4) (by omega) (by omega))]
      rfl
    | succ r ih =>
      intro N y I hy hN hI
      obtain ⟨N, rfl⟩ : ∃ q, N = q + 1 := ⟨N - 1, by omega⟩
      obtain ⟨I', z1, z2⟩ := ih N (y + 1) (upd I y (nI (usuR k y))) (by omega) (by omega) (fun j hj => by
        by_cases z : j = y
        · rw [z, pk_us]
        · rw [pk_un (by omega)]; exact hI j (by omega))
      refine ⟨I', z1, ?_⟩
      rw [s_RoomReader_readItems_19]
      unfold s_RoomReader_readItems_19_b
      rw [if_neg (show ¬ (4 : Int32) ≤ nI y from nI_ge (b := 4) (by omega) (by omega)), nI_add, if_pos (ib_nI (show 4 * k + y < 16 by omega) (by omega)), if_pos (ib_nI (show y < 4 by omega) (by omega)), nI_clamp (show 4 * k + y < 2 ^ 31 by omega), nI_clamp (show y < 2 ^ 31 by omega), (xt_k k hk y (by omega)).2.2]
      simp only [xl]
      rw [nI_1, tS_st (by omega), stF_st]
      exact z2
  obtain ⟨I1, f1, f2⟩ := fill 4 FUEL 0 I (by omega) (by unfold FUEL; omega) (fun j hj => by omega)
  have eR : s_RoomReader_readItems (nI k) (tS (stF σ 27 I) a (-1)) = s_RoomReader_readItems_48 (nI k) FUEL (nI (4 * k)) 0 (nI 0) (tS (stF σ 27 I1) a (-1)) := by
    unfold s_RoomReader_readItems s_RoomReader_readItems_16
    rw [if_neg (nI_pos (by omega)), if_neg (show ¬ (3 : Int32) < nI k from nI_nlt (a := 3) (b := k) (by omega) (by omega)), show (4 : Int32) = nI 4 from rfl, pk_mul, Nat.mul_comm k 4]
    exact f2
  rw [eR]
  exact r_items h hk (e + 1) FUEL a 0 0 (usuR k) I1 ha (by omega) (by unfold FUEL; omega) ha0 f1
end
