/-! the model reads a room -/
def spR (p : Nat) (c : Int32) : Nat → Nat → Int32
  | 0, _ => -1
  | m + 1, y => if js_at p (nI y) = c then nI y else spR p c m (y + 1)
theorem sp_loop {p L : Nat} {c : Int32} {σ : LH} (hL : xlen.getD p 0 = L) (hL1 : L < 100) : ∀ (m n y : Nat), y + m = L → m < n → s_Model_spotOf_2 p c n (nI y) σ = some (spR p c m y, σ) := by
  intro m
  induction m with
  | zero =>
    intro n y hy hn
    obtain ⟨n, rfl⟩ : ∃ q, n = q + 1 := ⟨n - 1, by omega⟩
    rw [s_Model_spotOf_2]
    unfold s_Model_spotOf_2_b js_len
    rw [hL, if_pos (nI_le (by omega) (by omega))]
    rfl
  | succ m ih =>
    intro n y hy hn
    obtain ⟨n, rfl⟩ : ∃ q, n = q + 1 := ⟨n - 1, by omega⟩
    rw [s_Model_spotOf_2]
    unfold s_Model_spotOf_2_b js_len spR
    rw [hL, if_neg (nI_ge (by omega) (by omega)), if_pos (ib_nI (by omega) (by omega))]
    by_cases q : js_at p (nI y) = c
    · rw [if_pos q, if_pos q]
    · rw [if_neg q, if_neg q]
      simp only [xl]
      rw [nI_1]
      exact ih n (y + 1) (by omega) (by omega)
theorem sp_k : ∀ k, k < 4 → ∀ c, c < 256 → spR (k + 2) (oc c) (nKR k) 0 = oI (spotR k c) := by decide +kernel
theorem xl_k : ∀ k, k < 4 → xlen.getD (k + 2) 0 = nKR k := by decide +kernel
theorem m_spot {k c : Nat} {σ : LH} (hk : k < 4) (hc : c < 256) : s_Model_spotOf (k + 2) (oc c) σ = some (oI (spotR k c), σ) := by
  unfold s_Model_spotOf
  rw [← nI_0, sp_loop (xl_k k hk) (by have := nKR_le hk; omega) (nKR k) FUEL 0 (by omega) (by have := nKR_le hk; unfold FUEL; omega), sp_k k hk c hc]
theorem m_usual {k i : Nat} {τ : LH} (hk : k < 4) (hi : i < nKR k) : s_Model_usual (nI (kcR k)) (nI i) τ = some (nI (usuR k i), τ) := by
  rcases (show k = 0 ∨ k = 1 ∨ k = 2 ∨ k = 3 by omega) with rfl | rfl | rfl | rfl
  · have : i < 3 := hi
    rcases (show i = 0 ∨ i = 1 ∨ i = 2 by omega) with rfl | rfl | rfl <;> rfl
  · have : i < 4 := hi
    rcases (show i = 0 ∨ i = 1 ∨ i = 2 ∨ i = 3 by omega) with rfl | rfl | rfl | rfl <;> rfl
  · have : i < 3 := hi
    rcases (show i = 0 ∨ i = 1 ∨ i = 2 by omega) with rfl | rfl | rfl <;> rfl
  · have : i < 2 := hi
    rcases (show i = 0 ∨ i = 1 by omega) with rfl | rfl <;> rfl
theorem m_least {k i : Nat} {τ : LH} (hk : k < 4) (hi : i < nKR k) : s_Model_leastOf (nI (kcR k)) (nI i) τ = some (nI (lstR k i), τ) := by
  rcases (show k = 0 ∨ k = 1 ∨ k = 2 ∨ k = 3 by omega) with rfl | rfl | rfl | rfl
  · have : i < 3 := hi
    rcases (show i = 0 ∨ i = 1 ∨ i = 2 by omega) with rfl | rfl | rfl <;> rfl
  · have : i < 4 := hi
    rcases (show i = 0 ∨ i = 1 ∨ i = 2 ∨ i = 3 by omega) with rfl | rfl | rfl | rfl <;> rfl
  · have : i < 3 := hi
    rcases (show i = 0 ∨ i = 1 ∨ i = 2 by omega) with rfl | rfl | rfl <;> rfl
  · have : i < 2 := hi
    rcases (show i = 0 ∨ i = 1 by omega) with rfl | rfl <;> rfl
theorem m_most {k i : Nat} {τ : LH} (hk : k < 4) (hi : i < nKR k) : s_Model_mostOf (nI (kcR k)) (nI i) τ = some (nI (mstR k i), τ) := by
  rcases (show k = 0 ∨ k = 1 ∨ k = 2 ∨ k = 3 by omega) with rfl | rfl | rfl | rfl
  · have : i < 3 := hi
    rcases (show i = 0 ∨ i = 1 ∨ i = 2 by omega) with rfl | rfl | rfl <;> rfl
  · have : i < 4 := hi
    rcases (show i = 0 ∨ i = 1 ∨ i = 2 ∨ i = 3 by omega) with rfl | rfl | rfl | rfl <;> rfl
  · have : i < 3 := hi
    rcases (show i = 0 ∨ i = 1 ∨ i = 2 by omega) with rfl | rfl | rfl <;> rfl
  · have : i < 2 := hi
    rcases (show i = 0 ∨ i = 1 by omega) with rfl | rfl <;> rfl
section
variable {τ : LH} {B : Nat → Nat} {e a b k d : Nat} {A : Nat → Int32}
theorem TM.F (h : TM τ B e 571 0) (hb : b ≠ 570 ∧ b ≠ 571) : TM (stF τ b A) B e 571 0 := by
  obtain ⟨h1, h2, h3, h4, h5⟩ := h
  refine ⟨h1, h2, ?_, ?_, fun i hi => ?_⟩
  · rw [stF_n (by omega)]; exact h3
  · rw [stF_n (by omega)]; exact h4
  · rw [stF_n (by omega)]; exact h5 i hi
theorem mS_F {f : Int32} {i : Nat} {v : Int32} (hb : b ≠ 570) : stI (mS (stF τ b A) a f d) b i v = mS (stF τ b (upd A i v)) a f d := by
  unfold mS
  have e1 : ∀ (σ : LH) (j : Nat) (u : Int32), stI (stI σ 570 j u) b i v = stI (stI σ b i v) 570 j u := fun σ j u => stII hb
  rw [e1, e1, e1]
  have e2 : stI (stF τ b A) b i v = stF τ b (upd A i v) := by
    unfold stI
    rw [stF_s, stF_F]
  rw [e2]
theorem m_here {b0 c : Nat} (h : TM τ B e c b0) (ha : a < e) {f : Int32} : s_Model_here (mS τ a f d) = some (nI (B a), mS τ a f d) := by
  have h' := h.mS (a := a) (f := f) (d := d)
  have he := h.e9
  unfold s_Model_here s_Model_here_33
  rw [h'.2.2.2.1, mS_10, if_neg (nI_ge (by omega) (by omega)), h'.1]
  simp only [xl]
  rw [h'.2.2.1, if_pos (h.ib ha), h.cl ha, (h'.2.2.2.2 a ha).1, sx_255 _ (h.2.2.2.2 a ha).2.2]
theorem m_it78 (h : TM τ B e 571 0) (hb : b ≠ 570 ∧ b ≠ 571) {bn j l x v : Nat} (hj : j < bn) (hbn : bn < 1000) (hl : l < 1000) (hx : x < 1000) (hv : v < 1000) (ha : a ≤ e) (ha0 : 0 < a) : s_Model_readItem_78 b bn (nI j) (nI l) (nI x) (nI v) (mS (stF τ b A) a (-1) d) = if 48 ≤ chA B e a ∧ chA B e a ≤ 57 then some (mS (stF τ b A) a (nI a) d) else if l ≤ v ∧ v ≤ x then some (mS (stF τ b (upd A j (nI v))) a (-1) d) else some (mS (stF τ b A) (a - 1) (nI (a - 1)) d) := by
  have hF := h.F (A := A) hb
  unfold s_Model_readItem_78
  rw [m_isDigit hF ha]
  simp only [xb2, ite10]
  by_cases q : 48 ≤ chA B e a ∧ chA B e a ≤ 57
  · rw [if_pos q, if_pos q, m_fails]
  · rw [if_neg q, if_neg q, m_isIn]
    simp only [ite10]
    by_cases q2 : l ≤ v ∧ v ≤ x
    · rw [if_pos q2, if_pos (show nI l ≤ nI v ∧ nI v ≤ nI x from ⟨nI_le q2.1 (by omega), nI_le q2.2 (by omega)⟩), if_pos (ib_nI hj (by omega)), nI_clamp (by omega), mS_F hb.1]
      rfl
    · rw [if_neg q2, if_neg (show ¬ (nI l ≤ nI v ∧ nI v ≤ nI x) from fun z => q2 ⟨Decidable.byContradiction fun y => nI_ge (a := v) (b := l) (by omega) (by omega) z.1, Decidable.byContradiction fun y => nI_ge (a := x) (b := v) (by omega) (by omega) z.2⟩), mS_10]
      obtain ⟨a, rfl⟩ : ∃ a', a = a' + 1 := ⟨a - 1, by omega⟩
      rw [nI_pred, mS_a]
      simp only [xl]
      rw [m_fails]
      rfl
theorem m_item (h : TM τ B e 571 0) (hb : b ≠ 570 ∧ b ≠ 571) {bn j l x : Nat} (hj : j < bn) (hbn : bn < 1000) (hl : l < 1000) (hx : x < 1000) (ha : a < e) : s_Model_readItem b bn (nI j) (nI l) (nI x) (mS (stF τ b A) a (-1) d) = match pN2 B e (a + 1) with
    | .inl f => some (mS (stF τ b A) f (nI f) d)
    | .inr q => if l ≤ q.1 ∧ q.1 ≤ x then some (mS (stF τ b (upd A j (nI q.1))) q.2 (-1) d) else some (mS (stF τ b A) (q.2 - 1) (nI (q.2 - 1)) d) := by
  have hF := h.F (A := A) hb
  have g1 := sk_le (B := B) (e := e) (a := a + 1) (by omega)
  have g2 := sk_ge (B := B) (e := e) (a := a + 1)
  have he := h.2.1
  unfold s_Model_readItem pN2
  simp only [xl]
  rw [mS_10, nI_1, mS_a, m_look hF (by omega)]
  simp only [xb2]
  rw [m_isDigit hF g1]
  simp only [ite10]
  by_cases q : 48 ≤ chA B e (sk B e (a + 1)) ∧ chA B e (sk B e (a + 1)) ≤ 57
  · have l1 : sk B e (a + 1) < e := chA_lt (B := B) (by omega)
    rw [if_pos q, if_pos q, pdN_2 q, mS_10, nI_1, mS_a, m_isDigit hF (by omega)]
    simp only [ite10]
    generalize sk B e (a + 1) = z at *
    have c1 : oc (chA B e z) - 48 = nI (chA B e z - 48) := by
      rw [oc_n (by omega), show (48 : Int32) = nI 48 from rfl, pk_sub (by omega)]
    by_cases q2 : 48 ≤ chA B e (z + 1) ∧ chA B e (z + 1) ≤ 57
    · have l2 : z + 1 < e := chA_lt (B := B) (by omega)
      rw [if_pos q2, if_pos q2, m_here hF l2]
      simp only
      have c2 : B (z + 1) = chA B e (z + 1) := (chA_in l2).symm
      have ev : 10 * (oc (chA B e z) - 48) + nI (B (z + 1)) - 48 = nI (10 * (chA B e z - 48) + (chA B e (z + 1) - 48)) := by
        rw [c1, show (10 : Int32) = nI 10 from rfl, pk_mul, nI_add, show (48 : Int32) = nI 48 from rfl, pk_sub (by omega), c2]
        congr 1
        omega
      rw [ev, mS_10, nI_1, mS_a, m_it78 h hb hj hbn hl hx (by omega) (by omega) (by omega)]
      by_cases q3 : 48 ≤ chA B e (z + 1 + 1) ∧ chA B e (z + 1 + 1) ≤ 57
      · rw [if_pos q3, if_pos q3]
      · rw [if_neg q3, if_neg q3]
    · rw [if_neg q2, if_neg q2]
      simp only
      rw [c1, m_it78 h hb hj hbn hl hx (by omega) (by omega) (by omega), if_neg q2, if_neg q2]
  · rw [if_neg q, if_neg q, m_fails]
/-- what is read into a row -/
def RWr (A A' : Nat → Int32) (lo k : Nat) : Prop := ∀ j, j < lo ∨ lo + nKR k ≤ j → A' j = A j
theorem m_items (h : TM τ B e 571 0) (hb : b ≠ 570 ∧ b ≠ 571) (hk : k < 4) {bn lo : Nat} (hlo : lo + nKR k ≤ bn) (hbn : bn < 1000) : ∀ (n N a : Nat) (se : Int32) (it : Nat → Nat) (A : Nat → Int32), a ≤ e → e < n + a → n < N → (∀ j, j < nKR k → A (lo + j) = nI (it j)) → match pIt B e k n a se it with
    | .inl f => ∃ a' A', RWr A A' lo k ∧ s_Model_readItems_45 (nI (kcR k)) b bn (nI lo) (k + 2) N se (oI (spotR k (chA B e (sk B e a)))) (mS (stF τ b A) (sk B e a) (-1) d) = some (mS (stF τ b A') a' (nI f) d)
    | .inr q => ∃ A', RWr A A' lo k ∧ (∀ j, j < nKR k → A' (lo + j) = nI (q.1 j)) ∧ s_Model_readItems_45 (nI (kcR k)) b bn (nI lo) (k + 2) N se (oI (spotR k (chA B e (sk B e a)))) (mS (stF τ b A) (sk B e a) (-1) d) = some (mS (stF τ b A') q.2 (-1) d) := by
  have hK := nKR_le hk
  have he := h.2.1
  intro n
  induction n with
  | zero => intro N a se it A h1 h2; omega
  | succ n ih =>
    intro N a se it A h1 h2 hN hA
    obtain ⟨N, rfl⟩ : ∃ q, N = q + 1 := ⟨N - 1, by omega⟩
    have g1 := sk_le (B := B) h1
    have g2 := sk_ge (B := B) (e := e) (a := a)
    have hF := h.F (A := A) hb
    rw [pIt, s_Model_readItems_45]
    unfold s_Model_readItems_45_b s_Model_readItems_127
    cases hs : spotR k (chA B e (sk B e a)) with
    | none =>
      exact ⟨A, fun _ _ => rfl, hA, by rw [show oI none = -1 from rfl, if_pos rfl]⟩
    | some i =>
      have g3 := spot_in hk hs
      have hi : i < nKR k := spotR_lt k hk _ hF.ch i hs
      have ei : oI (some i) = nI i := rfl
      simp only
      rw [ei, if_neg (nI_m1 (by omega)), mS_11, if_pos rfl, m_has]
      simp only [xb2]
      by_cases q : ((se >>> (nI i &&& 31)) &&& 1) = 0
      · have q' : ¬ ((se >>> (nI i &&& 31)) &&& 1) = 1 := (and1 _).mp q
        rw [if_pos q, if_neg q', if_pos rfl]
        simp only [xl]
        rw [m_least hk hi]
        simp only
        rw [m_most hk hi]
        simp only
        have hm := mstR_lt k hk i (by omega)
        rw [nI_add, m_item h hb (show lo + i < bn by omega) hbn (by omega) (by omega) g3]
        have hb2 := pN2_bd (B := B) (e := e) (a := sk B e a + 1) (by omega)
        cases hn : pN2 B e (sk B e a + 1) with
        | inl f =>
          rw [hn] at hb2
          simp only [xb1]
          rw [mS_11, if_neg (nI_m1 (by omega))]
          refine ⟨f, A, fun _ _ => rfl, ?_⟩
          obtain ⟨N, rfl⟩ : ∃ q, N = q + 1 := ⟨N - 1, by omega⟩
          rw [s_Model_readItems_45]
          unfold s_Model_readItems_45_b s_Model_readItems_127
          rw [if_neg (nI_m1 (by omega)), mS_11, if_neg (nI_m1 (by omega))]
        | inr v =>
          rw [hn] at hb2
          simp only at hb2 ⊢
          by_cases q2 : lstR k i ≤ v.1 ∧ v.1 ≤ mstR k i
          · rw [if_pos q2, if_pos q2]
            simp only [xb1]
            have hF2 := h.F (A := upd A (lo + i) (nI v.1)) hb
            rw [mS_11, if_pos rfl, m_look hF2 hb2.2.1]
            simp only
            rw [m_spot hk hF2.ch]
            simp only
            have hi2 := ih N v.2 (se ||| (1 <<< (nI i &&& 31))) (fun j => if j = i then v.1 else it j) (upd A (lo + i) (nI v.1)) hb2.2.1 (by omega) (by omega) (fun j hj => by
              by_cases z : j = i
              · rw [if_pos z, z, pk_us]
              · rw [if_neg z, pk_un (by omega)]; exact hA j hj)
            have wr : ∀ A', RWr (upd A (lo + i) (nI v.1)) A' lo k → RWr A A' lo k := fun A' y j hj => by rw [y j hj, pk_un (by omega)]
            cases hp : pIt B e k n v.2 (se ||| (1 <<< (nI i &&& 31))) (fun j => if j = i then v.1 else it j) with
            | inl f =>
              rw [hp] at hi2
              obtain ⟨a', A', y1, y2⟩ := hi2
              exact ⟨a', A', wr A' y1, y2⟩
            | inr w =>
              rw [hp] at hi2
              obtain ⟨A', y1, y2, y3⟩ := hi2
              exact ⟨A', wr A' y1, y2, y3⟩
          · rw [if_neg q2, if_neg q2]
            simp only [xb1]
            rw [mS_11, if_neg (nI_m1 (by omega))]
            refine ⟨v.2 - 1, A, fun _ _ => rfl, ?_⟩
            obtain ⟨N, rfl⟩ : ∃ q, N = q + 1 := ⟨N - 1, by omega⟩
            rw [s_Model_readItems_45]
            unfold s_Model_readItems_45_b s_Model_readItems_127
            rw [if_neg (nI_m1 (by omega)), mS_11, if_neg (nI_m1 (by omega))]
      · have q' : ((se >>> (nI i &&& 31)) &&& 1) = 1 := Decidable.byContradiction fun z => q ((and1 _).mpr z)
        rw [if_neg q, if_pos q', if_neg (show ¬ (1 : Int32) = 0 by decide), m_fails]
        exact ⟨sk B e a, A, fun _ _ => rfl, rfl⟩
/-- the items of a clause, in the model -/
theorem m_rItems (h : TM τ B e 571 0) (hb : b ≠ 570 ∧ b ≠ 571) (hk : k < 4) {bn lo : Nat} (hlo : lo + nKR k ≤ bn) (hbn : bn < 1000) (ha : a ≤ e) : match pIt B e k (e + 1) a 0 (usuR k) with
    | .inl f => ∃ a' A', RWr A A' lo k ∧ s_Model_readItems (nI (kcR k)) b bn (nI lo) (k + 2) (mS (stF τ b A) a (-1) d) = some (mS (stF τ b A') a' (nI f) d)
    | .inr q => ∃ A', RWr A A' lo k ∧ (∀ j, j < nKR k → A' (lo + j) = nI (q.1 j)) ∧ s_Model_readItems (nI (kcR k)) b bn (nI lo) (k + 2) (mS (stF τ b A) a (-1) d) = some (mS (stF τ b A') q.2 (-1) d) := by
  have hK := nKR_le hk
  have he := h.2.1
  have fill : ∀ (r N y : Nat) (A : Nat → Int32), y + r = nKR k → r < N → (∀ j, j < y → A (lo + j) = nI (usuR k j)) → ∃ A', RWr A A' lo k ∧ (∀ j, j < nKR k → A' (lo + j) = nI (usuR k j)) ∧ s_Model_readItems_3 (nI (kcR k)) b bn (nI lo) (k + 2) N (nI y) (mS (stF τ b A) a (-1) d) = s_Model_readItems_45 (nI (kcR k)) b bn (nI lo) (k + 2) FUEL 0 (oI (spotR k (chA B e (sk B e a)))) (mS (stF τ b A') (sk B e a) (-1) d) := by
    intro r
    induction r with
    | zero =>
      intro N y A hy hN hA
      obtain ⟨N, rfl⟩ : ∃ q, N = q + 1 := ⟨N - 1, by omega⟩
      refine ⟨A, fun _ _ => rfl, fun j hj => hA j (by omega), ?_⟩
      have hF := h.F (A := A) hb
      rw [s_Model_readItems_3]
      unfold s_Model_readItems_3_b js_len
      rw [xl_k k hk, if_pos (nI_le (by omega) (by omega)), m_look hF ha]
      simp only [xb2]
      rw [m_spot hk hF.ch]
    | succ r ih =>
      intro N y A hy hN hA
      obtain ⟨N, rfl⟩ : ∃ q, N = q + 1 := ⟨N - 1, by omega⟩
      obtain ⟨A', z1, z2, z3⟩ := ih N (y + 1) (upd A (lo + y) (nI (usuR k y))) (by omega) (by omega) (fun j hj => by
        by_cases z : j = y
        · rw [z, pk_us]
        · rw [pk_un (by omega)]; exact hA j (by omega))
      refine ⟨A', fun j hj => by rw [z1 j hj, pk_un (by omega)], z2, ?_⟩
      rw [s_Model_readItems_3]
      unfold s_Model_readItems_3_b js_len
      rw [xl_k k hk, if_neg (nI_ge (by omega) (by omega)), m_usual hk (by omega)]
      simp only [xb2]
      rw [nI_add, if_pos (ib_nI (by omega) (by omega)), nI_clamp (show lo + y < 2 ^ 31 by omega)]
      simp only [xl]
      rw [nI_1, mS_F hb.1]
      exact z3
  obtain ⟨A1, f1, f2, f3⟩ := fill (nKR k) FUEL 0 A (by omega) (by unfold FUEL; omega) (fun j hj => by omega)
  rw [nI_0] at f3
  have eR : s_Model_readItems (nI (kcR k)) b bn (nI lo) (k + 2) (mS (stF τ b A) a (-1) d) = _ := f3
  have m := m_items (d := d) h hb hk hlo hbn (e + 1) FUEL a 0 (usuR k) A1 ha (by omega) (by unfold FUEL; omega) f2
  have wr : ∀ A', RWr A1 A' lo k → RWr A A' lo k := fun A' y j hj => (y j hj).trans (f1 j hj)
  cases hp : pIt B e k (e + 1) a 0 (usuR k) with
  | inl f =>
    rw [hp] at m
    obtain ⟨a', A', y1, y2⟩ := m
    exact ⟨a', A', wr A' y1, eR.trans y2⟩
  | inr w =>
    rw [hp] at m
    obtain ⟨A', y1, y2, y3⟩ := m
    exact ⟨A', wr A' y1, y2, eR.trans y3⟩
end
