/-! tastes, the class: numbers, sums -/
def wrC (C : Nat → Int32) (k : Nat) (cs : List Int32) : Nat → Int32 := fun j => if k ≤ j ∧ j < k + cs.length then cs.getD (j - k) 0 else C j
def mtm (m : Int32) (cs : List Int32) : Int32 := if lco 4 ∈ cs then 1 else m
theorem wrC_nil {C : Nat → Int32} {k : Nat} : wrC C k [] = C := by
  funext j
  unfold wrC
  rw [if_neg (by show ¬ (k ≤ j ∧ j < k + 0); omega)]
theorem wrC_one {C : Nat → Int32} {k : Nat} {x : Int32} : upd C k x = wrC C k [x] := by
  funext j
  rw [upd_e]
  unfold wrC
  by_cases q : j = k
  · subst q
    rw [if_pos rfl, if_pos (by show j ≤ j ∧ j < j + 1; omega), Nat.sub_self]
    rfl
  · rw [if_neg q, if_neg (by show ¬ (k ≤ j ∧ j < k + 1); omega)]
theorem wrC_app {C : Nat → Int32} {k : Nat} {cs cs' : List Int32} : wrC (wrC C k cs) (k + cs.length) cs' = wrC C k (cs ++ cs') := by
  funext j
  unfold wrC
  rw [List.length_append]
  by_cases q1 : k + cs.length ≤ j ∧ j < k + cs.length + cs'.length
  · rw [if_pos q1, if_pos (by omega), List.getD_eq_getElem?_getD, List.getD_eq_getElem?_getD, List.getElem?_append_right (by omega), show j - k - cs.length = j - (k + cs.length) by omega]
  · rw [if_neg q1]
    by_cases q2 : k ≤ j ∧ j < k + cs.length
    · rw [if_pos q2, if_pos (by omega), List.getD_eq_getElem?_getD, List.getD_eq_getElem?_getD, List.getElem?_append_left (by omega)]
    · rw [if_neg q2, if_neg (by omega)]
theorem mtm_app {m : Int32} {cs cs' : List Int32} : mtm (mtm m cs) cs' = mtm m (cs ++ cs') := by
  unfold mtm
  by_cases q1 : lco 4 ∈ cs'
  · rw [if_pos q1, if_pos (List.mem_append_right _ q1)]
  · rw [if_neg q1]
    by_cases q2 : lco 4 ∈ cs
    · rw [if_pos q2, if_pos (List.mem_append_left _ q2)]
    · rw [if_neg q2, if_neg (fun z => (List.mem_append.mp z).elim q2 q1)]
theorem mtm_no {m x : Int32} (h : x ≠ lco 4) : mtm m [x] = m := by
  unfold mtm
  rw [if_neg (fun z => h ((List.mem_singleton.mp z).symm))]
/-- what comes of reading in the class: a fault, or these codes behind the others -/
def CO (σ : LH) (e t : Nat) (C : Nat → Int32) (k : Nat) (m : Int32) (r : TR) (o : Option LH) : Prop := match r with
  | .inl f => f < 2 ^ 31 ∧ ∃ a' C' k' m', a' ≤ e ∧ k' ≤ 480 ∧ o = some (cS σ t a' (nI f) C' k' m')
  | .inr q => o = some (cS σ t q.1 (-1) (wrC C k q.2) (k + q.2.length) (mtm m q.2))
section
variable {σ : LH} {t e : Nat} {B : Nat → Nat}
theorem c_num24 (h : CT σ B e t) {L k : Nat} {C : Nat → Int32} {m0 : Int32} (hL : L ≤ 4) : ∀ (m n j a v : Nat), j + m = L → m < n → a ≤ e → v < 10 ^ j → s_Tape_number_24 (nI L) n (nI v) (nI j) (cS σ t a (-1) C k m0) = if 48 ≤ chA B e (pdN B e m a v).2 ∧ chA B e (pdN B e m a v).2 ≤ 57 then some (nI (pdN B e m a v).1, cS σ t (pdN B e m a v).2 (nI (pdN B e m a v).2) C k m0) else some (nI (pdN B e m a v).1, cS σ t (pdN B e m a v).2 (-1) C k m0) := by
  have ht := h.1
  have he := h.2.2.1
  have end70 : ∀ (a v : Nat), a ≤ e → s_Tape_number_70 (nI L) (nI v) (cS σ t a (-1) C k m0) = if 48 ≤ chA B e a ∧ chA B e a ≤ 57 then some (nI v, cS σ t a (nI a) C k m0) else some (nI v, cS σ t a (-1) C k m0) := by
    intro a v ha
    unfold s_Tape_number_70 s_Tape_number_85
    rw [c_isAtDigit h ha]
    simp only [xb2, ite10]
    by_cases q : 48 ≤ chA B e a ∧ chA B e a ≤ 57
    · rw [if_pos q, if_pos q, cS_a ht, c_fail ht]
      rfl
    · rw [if_neg q, if_neg q]
  intro m
  induction m with
  | zero =>
    intro n j a v hj hn ha hv
    obtain ⟨n, rfl⟩ : ∃ q, n = q + 1 := ⟨n - 1, by omega⟩
    rw [s_Tape_number_24]
    unfold s_Tape_number_24_b
    rw [if_pos (nI_le (by omega) (by omega)), end70 a v ha]
    rfl
  | succ m ih =>
    intro n j a v hj hn ha hv
    obtain ⟨n, rfl⟩ : ∃ q, n = q + 1 := ⟨n - 1, by omega⟩
    rw [s_Tape_number_24]
    unfold s_Tape_number_24_b
    rw [if_neg (nI_ge (by omega) (by omega)), c_isAtDigit h ha]
    simp only [xb2, ite10]
    by_cases q : 48 ≤ chA B e a ∧ chA B e a ≤ 57
    · have hlt : a < e := chA_lt (B := B) (by omega)
      have hc : chA B e a = B a := chA_in hlt
      have hp : pdN B e (m + 1) a v = pdN B e m (a + 1) (10 * v + (chA B e a - 48)) := by
        conv => lhs; unfold pdN
        rw [if_pos q]
      have hj4 : 10 ^ j ≤ 1000 := by
        have : j ≤ 3 := by omega
        have := Nat.pow_le_pow_right (n := 10) (by omega) this
        omega
      have ev : nI v * 10 + nI (B a) - 48 = nI (10 * v + (chA B e a - 48)) := by
        rw [show (10 : Int32) = nI 10 from rfl, pk_mul, nI_add, show (48 : Int32) = nI 48 from rfl, pk_sub (by omega), hc]
        congr 1
        omega
      rw [if_pos q, cS_a ht, if_pos (ib_nI (by omega) (by omega)), nI_clamp (show a < 2 ^ 31 by omega), ((h.cS (a := a) (f := -1) (C := C) (k := k) (m := m0)).2.2.2.2 a hlt).1]
      simp only [xl]
      rw [nI_1 a, cS_sa ht, nI_1 j, ev, hp]
      exact ih n (j + 1) (a + 1) _ (by omega) (by omega) (by omega) (by rw [Nat.pow_succ]; omega)
    · have hp : pdN B e (m + 1) a v = (v, a) := by
        unfold pdN
        rw [if_neg q]
      rw [if_neg q, end70 a v ha, hp]
theorem c_number (h : CT σ B e t) {L a k : Nat} {C : Nat → Int32} {m0 : Int32} (hL : L ≤ 4) (ha : a ≤ e) : s_Tape_number (nI L) (cS σ t a (-1) C k m0) = if 48 ≤ chA B e (sk B e a) ∧ chA B e (sk B e a) ≤ 57 then (if 48 ≤ chA B e (pdN B e L (sk B e a) 0).2 ∧ chA B e (pdN B e L (sk B e a) 0).2 ≤ 57 then some (nI (pdN B e L (sk B e a) 0).1, cS σ t (pdN B e L (sk B e a) 0).2 (nI (pdN B e L (sk B e a) 0).2) C k m0) else some (nI (pdN B e L (sk B e a) 0).1, cS σ t (pdN B e L (sk B e a) 0).2 (-1) C k m0)) else some (0, cS σ t (sk B e a) (nI (sk B e a)) C k m0) := by
  have ht := h.1
  have he := h.2.2.1
  have g2 := sk_le (B := B) (e := e) (a := a) ha
  unfold s_Tape_number s_Tape_number_22
  rw [c_sign h ha]
  simp only [xb2]
  rw [c_isAtDigit h g2]
  simp only [ite10]
  by_cases q : 48 ≤ chA B e (sk B e a) ∧ chA B e (sk B e a) ≤ 57
  · rw [if_pos q, if_pos q, ← nI_0, c_num24 h hL L FUEL 0 (sk B e a) 0 (by omega) (by unfold FUEL; omega) g2 (by omega)]
  · rw [if_neg q, if_neg q, cS_a ht, c_fail ht]
    simp only [xb1]
    have end70 : s_Tape_number_70 (nI L) 0 (cS σ t (sk B e a) (nI (sk B e a)) C k m0) = some (0, cS σ t (sk B e a) (nI (sk B e a)) C k m0) := by
      unfold s_Tape_number_70 s_Tape_number_85
      rw [c_isAtDigit h g2, if_neg q]
      rfl
    rw [show FUEL = 99999 + 1 from rfl, s_Tape_number_24]
    unfold s_Tape_number_24_b
    rw [c_isAtDigit h g2, if_neg q]
    simp only [xb2]
    by_cases q0 : nI L ≤ 0
    · rw [if_pos q0, end70]
    · rw [if_neg q0]
      exact end70
theorem c_num24F (h : CT σ B e t) {g L k : Nat} {C : Nat → Int32} {m0 : Int32} (hg : g < 2 ^ 31) (hL : L ≤ 4) : ∀ (m n j a : Nat) (v : Int32), j + m = L → m < n → a ≤ e → ∃ v' a', a' ≤ e ∧ s_Tape_number_24 (nI L) n v (nI j) (cS σ t a (nI g) C k m0) = some (v', cS σ t a' (nI g) C k m0) := by
  have ht := h.1
  have he := h.2.2.1
  have end70 : ∀ (a : Nat) (v : Int32), a ≤ e → s_Tape_number_70 (nI L) v (cS σ t a (nI g) C k m0) = some (v, cS σ t a (nI g) C k m0) := by
    intro a v ha
    unfold s_Tape_number_70 s_Tape_number_85
    rw [c_isAtDigit h ha]
    simp only [xb2, ite10]
    by_cases q : 48 ≤ chA B e a ∧ chA B e a ≤ 57
    · rw [if_pos q, c_failF ht hg]
      rfl
    · rw [if_neg q]
  intro m
  induction m with
  | zero =>
    intro n j a v hj hn ha
    obtain ⟨n, rfl⟩ : ∃ q, n = q + 1 := ⟨n - 1, by omega⟩
    rw [s_Tape_number_24]
    unfold s_Tape_number_24_b
    rw [if_pos (nI_le (by omega) (by omega)), end70 a v ha]
    exact ⟨v, a, ha, rfl⟩
  | succ m ih =>
    intro n j a v hj hn ha
    obtain ⟨n, rfl⟩ : ∃ q, n = q + 1 := ⟨n - 1, by omega⟩
    rw [s_Tape_number_24]
    unfold s_Tape_number_24_b
    rw [if_neg (nI_ge (by omega) (by omega)), c_isAtDigit h ha]
    simp only [xb2, ite10]
    by_cases q : 48 ≤ chA B e a ∧ chA B e a ≤ 57
    · have hlt : a < e := chA_lt (B := B) (by omega)
      rw [if_pos q, cS_a ht, if_pos (ib_nI (by omega) (by omega))]
      simp only [xl]
      rw [nI_1 a, cS_sa ht, nI_1 j]
      exact ih n (j + 1) (a + 1) _ (by omega) (by omega) (by omega)
    · rw [if_neg q, end70 a v ha]
      exact ⟨v, a, ha, rfl⟩
theorem c_numberF (h : CT σ B e t) {g L a k : Nat} {C : Nat → Int32} {m0 : Int32} (hg : g < 2 ^ 31) (hL : L ≤ 4) (ha : a ≤ e) : ∃ v' a', a' ≤ e ∧ s_Tape_number (nI L) (cS σ t a (nI g) C k m0) = some (v', cS σ t a' (nI g) C k m0) := by
  have ht := h.1
  have g2 := sk_le (B := B) (e := e) (a := a) ha
  unfold s_Tape_number s_Tape_number_22
  rw [c_sign h ha]
  simp only [xb2]
  rw [c_isAtDigit h g2]
  simp only [ite10]
  obtain ⟨v', a', e1, e2⟩ := c_num24F (C := C) (k := k) (m0 := m0) h hg hL L FUEL 0 (sk B e a) 0 (by omega) (by unfold FUEL; omega) g2
  rw [nI_0] at e2
  by_cases q : 48 ≤ chA B e (sk B e a) ∧ chA B e (sk B e a) ≤ 57
  · rw [if_pos q]
    exact ⟨v', a', e1, e2⟩
  · rw [if_neg q, c_failF ht hg]
    exact ⟨v', a', e1, e2⟩
theorem c_opens (h : CT σ B e t) {a k d c : Nat} {C : Nat → Int32} {m0 : Int32} (ha : a ≤ e) (hc : c ≠ 0) (hc2 : c < 256) (hd : d ≤ 6) : s_TasteReader_opens (nI c) (nI d) (cS σ t a (-1) C k m0) = if chA B e (sk B e a) = c then (if d = 6 then some (0, cS σ t (sk B e a) (nI (sk B e a)) C k m0) else some (1, cS σ t (sk B e a + 1) (-1) C k m0)) else some (0, cS σ t (sk B e a) (-1) C k m0) := by
  have ht := h.1
  have g2 := sk_le (B := B) (e := e) (a := a) ha
  have hch := h.ch (a := sk B e a)
  unfold s_TasteReader_opens s_TasteReader_opens_21
  rw [c_fine ht, if_pos rfl]
  simp only [xb2]
  rw [if_neg (show ¬ (1 : Int32) = 0 by decide), c_sign h ha]
  simp only
  have hq := oc_eq (c := chA B e (sk B e a)) (k := c) (by omega) (by omega) hc
  by_cases q : chA B e (sk B e a) = c
  · rw [if_pos (hq.mpr q), if_pos q]
    by_cases q6 : d = 6
    · rw [if_neg (show ¬ nI d < 6 from nI_nlt (b := 6) (by omega) (by omega)), if_pos q6, cS_a ht, c_fail ht]
      rfl
    · rw [if_pos (show nI d < 6 from nI_lt (b := 6) (by omega) (by omega)), if_neg q6, c_takes h g2 hc hc2, sk_sk ha, if_pos q]
      simp only
      rw [if_pos (show zb 1 from Or.inr rfl)]
  · rw [if_neg (fun y => q (hq.mp y)), if_neg q]
theorem c_opensF {a k d g : Nat} {c : Int32} {C : Nat → Int32} {m0 : Int32} (ht : 29 ≤ t) (hg : g < 2 ^ 31) : s_TasteReader_opens c (nI d) (cS σ t a (nI g) C k m0) = some (0, cS σ t a (nI g) C k m0) := by
  unfold s_TasteReader_opens s_TasteReader_opens_21
  rw [c_fine ht, if_neg (nI_m1 hg)]
  rfl
theorem c_atomF {rf : Int32 → LH → Option LH} {p0 : Int32} {a k g : Nat} {C : Nat → Int32} {m0 : Int32} (ht : 29 ≤ t) (hg : g < 2 ^ 31) : s_TasteReader_atom rf p0 (cS σ t a (nI g) C k m0) = some (cS σ t a (nI g) C k m0) := by
  unfold s_TasteReader_atom
  rw [c_fine ht, if_neg (nI_m1 hg)]
  rfl
theorem c_atom (h : CT σ B e t) {rf : Int32 → LH → Option LH} {prf : Nat → Nat → TR} (hp : ∀ d a, a ≤ e → Bd e a 0 (prf d a)) {d : Nat} (hd : d ≤ 6) (hrf : d < 6 → ∀ a C k m, a ≤ e → k + e ≤ 470 + a → CO σ e t C k m (prf (d + 1) a) (rf (nI (d + 1)) (cS σ t a (-1) C k m))) (hrfF : d < 6 → ∀ a C k m g, g < 2 ^ 31 → rf (nI (d + 1)) (cS σ t a (nI g) C k m) = some (cS σ t a (nI g) C k m)) {a k : Nat} {C : Nat → Int32} {m : Int32} (ha : a ≤ e) (hk : k + e ≤ 470 + a) : CO σ e t C k m (pAtom B e prf d a) (s_TasteReader_atom rf (nI d) (cS σ t a (-1) C k m)) := by
  have ht := h.1
  have he := h.2.2.1
  have g1 := sk_ge (B := B) (e := e) (a := a)
  have g2 := sk_le (B := B) (e := e) (a := a) ha
  have hc := h.ch (a := sk B e a)
  unfold s_TasteReader_atom s_TasteReader_atom_95 pAtom
  rw [c_fine ht, if_pos rfl]
  simp only [xb2]
  rw [if_neg (show ¬ (1 : Int32) = 0 by decide), c_letter0 h ha]
  simp only
  cases hx : lix (chA B e (sk B e a)) with
  | some i =>
    obtain ⟨i6, c128⟩ := lix_lt hx
    have hlt : sk B e a < e := chA_lt (B := B) (fun z => by rw [z, lix_0] at hx; cases hx)
    rw [show oI (some i) = nI i from rfl, if_neg (nI_m1 (by omega))]
    simp only [xl]
    rw [cS_a ht, nI_1, cS_sa ht, cS_t, h.2.1]
    unfold s_Taste_putLetter s_Taste_putLetter_18
    rw [c_put ht (by omega)]
    simp only [xb2, xl]
    show _ = some (cS σ t (sk B e a + 1) (-1) (wrC C k [lco i]) (k + 1) (mtm m [lco i]))
    rw [← wrC_one]
    by_cases q4 : i = 4
    · rw [if_pos (show nI i = 4 by rw [q4]; rfl), cS_sm]
      have : mtm m [lco i] = 1 := by unfold mtm; rw [q4, if_pos (List.mem_singleton.mpr rfl)]
      rw [this]
      rfl
    · rw [if_neg (show ¬ nI i = 4 from fun z => q4 (nI_ij (b := 4) (by omega) (by omega) z)), mtm_no (by
        have : ∀ i, i < 6 → i ≠ 4 → lco i ≠ lco 4 := by decide +kernel
        exact this i i6 q4)]
      rfl
  | none =>
    rw [show oI none = -1 from rfl, if_pos rfl, show (91 : Int32) = nI 91 from rfl, c_opens h g2 (by omega) (by omega) hd, sk_sk ha]
    by_cases q : chA B e (sk B e a) = 91
    · have hlt : sk B e a < e := chA_lt (B := B) (by omega)
      simp only [if_pos q]
      by_cases q6 : d = 6
      · simp only [if_pos q6]
        rw [if_pos trivial]
        simp only [xl]
        obtain ⟨v', a', n1, n2⟩ := c_numberF (g := sk B e a) (L := 4) (a := sk B e a) (k := k) (C := C) (m0 := m) h (by omega) (by omega) g2
        rw [show (4 : Int32) = nI 4 from rfl, n2]
        simp only
        rw [cS_t, h.2.1]
        obtain ⟨r, C', k', p1, p2⟩ := c_putG (σ := σ) (a := a') (f := nI (sk B e a)) (C := C) (k := k) (m := m) (x := v') ht (by omega)
        rw [p2]
        exact ⟨by omega, a', C', k', m, n1, p1, rfl⟩
      · simp only [if_neg q6]
        rw [if_neg (show ¬ (1 : Int32) = 0 by decide), nI_1]
        have hf := hrf (by omega) (sk B e a + 1) C k m (by omega) (by omega)
        have hb := hp (d + 1) (sk B e a + 1) (by omega)
        unfold pShut
        cases hq : prf (d + 1) (sk B e a + 1) with
        | inl f =>
          rw [hq] at hf
          obtain ⟨f1, a', C', k', m', f2, f3, f4⟩ := hf
          rw [f4]
          simp only [xb1]
          rw [c_needsF ht f1]
          exact ⟨f1, a', C', k', m', f2, f3, rfl⟩
        | inr r =>
          rw [hq] at hf hb
          have hf : rf (nI (d + 1)) (cS σ t (sk B e a + 1) (-1) C k m) = some (cS σ t r.1 (-1) (wrC C k r.2) (k + r.2.length) (mtm m r.2)) := hf
          rw [hf]
          simp only [xb1]
          rw [show (93 : Int32) = nI 93 from rfl, c_needs h hb.2.1 (by omega) (by omega)]
          have g3 := sk_le (B := B) (e := e) (a := r.1) hb.2.1
          by_cases q93 : chA B e (sk B e r.1) = 93
          · rw [if_pos q93, if_pos q93]
            rfl
          · rw [if_neg q93, if_neg q93]
            have b2 := hb.2.2
            have b3 := hb.2.1
            exact ⟨by omega, _, _, _, _, g3, by omega, rfl⟩
    · simp only [if_neg q]
      rw [if_pos trivial]
      simp only [xl]
      rw [show (4 : Int32) = nI 4 from rfl, c_number h (by omega) g2, sk_sk ha]
      unfold pNum
      have hb := pdN_bd (B := B) (e := e) 4 (sk B e a) 0 g2
      by_cases qd : 48 ≤ chA B e (sk B e a) ∧ chA B e (sk B e a) ≤ 57
      · rw [if_pos qd, if_pos qd]
        by_cases q5 : 48 ≤ chA B e (pdN B e 4 (sk B e a) 0).2 ∧ chA B e (pdN B e 4 (sk B e a) 0).2 ≤ 57
        · rw [if_pos q5, if_pos q5]
          simp only
          rw [cS_t, h.2.1]
          obtain ⟨r, C', k', p1, p2⟩ := c_putG (σ := σ) (a := (pdN B e 4 (sk B e a) 0).2) (f := nI (pdN B e 4 (sk B e a) 0).2) (C := C) (k := k) (m := m) (x := nI (pdN B e 4 (sk B e a) 0).1) ht (by omega)
          rw [p2]
          exact ⟨by omega, _, C', k', m, hb.2, p1, rfl⟩
        · rw [if_neg q5, if_neg q5]
          simp only
          rw [cS_t, h.2.1, c_put ht (by omega), wrC_one]
          show _ = some (cS σ t (pdN B e 4 (sk B e a) 0).2 (-1) (wrC C k [nI (pdN B e 4 (sk B e a) 0).1]) (k + 1) (mtm m [nI (pdN B e 4 (sk B e a) 0).1]))
          have hv := pdN_lt (B := B) (e := e) 4 (sk B e a) 0 0 (by omega)
          rw [mtm_no (fun z => by
            have h1 : (10 : Nat) ^ (0 + 4) = 10000 := rfl
            exact nI_pos (n := (pdN B e 4 (sk B e a) 0).1) (by omega) (by rw [z]; decide))]
      · rw [if_neg qd, if_neg qd]
        simp only
        rw [cS_t, h.2.1]
        obtain ⟨r, C', k', p1, p2⟩ := c_putG (σ := σ) (a := sk B e a) (f := nI (sk B e a)) (C := C) (k := k) (m := m) (x := 0) ht (by omega)
        rw [p2]
        exact ⟨by omega, _, C', k', m, g2, p1, rfl⟩
theorem c_term7F {rf : Int32 → LH → Option LH} {p0 y : Int32} {n a k g : Nat} {C : Nat → Int32} {m0 : Int32} (ht : 29 ≤ t) (hg : g < 2 ^ 31) (hn : 0 < n) : s_TasteReader_term_7 rf p0 n y (cS σ t a (nI g) C k m0) = some (cS σ t a (nI g) C k m0) := by
  obtain ⟨n, rfl⟩ : ∃ q, n = q + 1 := ⟨n - 1, by omega⟩
  rw [s_TasteReader_term_7]
  unfold s_TasteReader_term_7_b s_TasteReader_term_49
  by_cases q : 240 ≤ y
  · rw [if_pos q]
  · rw [if_neg q, c_takesF ht hg]
    simp only [xb2]
    rw [if_pos trivial, c_takesF ht hg]
    simp only
    rw [if_pos trivial, if_pos trivial]
theorem c_term7L (h : CT σ B e t) {rf : Int32 → LH → Option LH} {F : Nat → TR} {d k0 : Nat} {C0 : Nat → Int32} {m0 : Int32} (hb : ∀ a, a ≤ e → Bd e a 0 (F a)) (hF : ∀ a C k m, a ≤ e → k + e ≤ 470 + a → CO σ e t C k m (F a) (s_TasteReader_atom rf (nI d) (cS σ t a (-1) C k m))) : ∀ (m n i a : Nat) (cs : List Int32), e < m + a → m ≤ n → a ≤ e → i + e < 240 + a → k0 + cs.length + e ≤ 470 + a → CO σ e t C0 k0 m0 (pLoop B e 42 47 (-13) (-14) F m a cs) (s_TasteReader_term_7 rf (nI d) n (nI i) (cS σ t a (-1) (wrC C0 k0 cs) (k0 + cs.length) (mtm m0 cs))) := by
  have ht := h.1
  have he := h.2.2.1
  intro m
  induction m with
  | zero => intro n i a cs h1 h2 h3; omega
  | succ m ih =>
    intro n i a cs h1 h2 h3 hi hk
    obtain ⟨n, rfl⟩ : ∃ q, n = q + 1 := ⟨n - 1, by omega⟩
    have g1 := sk_ge (B := B) (e := e) (a := a)
    have g2 := sk_le (B := B) (e := e) (a := a) h3
    have fin : ∀ z : Int32, (z = -13 ∨ z = -14) → sk B e a < e → CO σ e t C0 k0 m0 (pSeq (F (sk B e a + 1)) (fun a' cs' => pLoop B e 42 47 (-13) (-14) F m a' (cs ++ cs' ++ [z]))) (s_TasteReader_term_49 rf (nI d) (s_TasteReader_term_7 rf (nI d) n) (nI i) z (cS σ t (sk B e a + 1) (-1) (wrC C0 k0 cs) (k0 + cs.length) (mtm m0 cs))) := by
      intro z hz hlt
      have z4 : z ≠ lco 4 := by rcases hz with rfl | rfl <;> decide
      have z1 : z ≠ -1 := by rcases hz with rfl | rfl <;> decide
      have hf := hF (sk B e a + 1) (wrC C0 k0 cs) (k0 + cs.length) (mtm m0 cs) (by omega) (by omega)
      have hbb := hb (sk B e a + 1) (by omega)
      unfold s_TasteReader_term_49 pSeq
      rw [if_neg z1]
      cases hq : F (sk B e a + 1) with
      | inl f =>
        rw [hq] at hf
        obtain ⟨f1, a', C', k', m', f2, f3, f4⟩ := hf
        rw [f4]
        simp only [xb1, xl]
        rw [cS_t, h.2.1]
        obtain ⟨r, C2', k2', p1, p2⟩ := c_putG (σ := σ) (a := a') (f := nI f) (C := C') (k := k') (m := m') (x := z) ht f3
        rw [p2]
        simp only [xb2]
        rw [c_term7F ht f1 (by omega)]
        exact ⟨f1, a', C2', k2', m', f2, p1, rfl⟩
      | inr q =>
        rw [hq] at hf hbb
        have hf : s_TasteReader_atom rf (nI d) (cS σ t (sk B e a + 1) (-1) (wrC C0 k0 cs) (k0 + cs.length) (mtm m0 cs)) = some (cS σ t q.1 (-1) (wrC (wrC C0 k0 cs) (k0 + cs.length) q.2) (k0 + cs.length + q.2.length) (mtm (mtm m0 cs) q.2)) := hf
        have b1 := hbb.1
        have b2 := hbb.2.2
        have b3 := hbb.2.1
        rw [hf]
        simp only [xb1, xl]
        rw [cS_t, h.2.1, c_put ht (by omega)]
        simp only [xb2]
        have e1 : upd (wrC (wrC C0 k0 cs) (k0 + cs.length) q.2) (k0 + cs.length + q.2.length) z = wrC C0 k0 (cs ++ q.2 ++ [z]) := by
          rw [wrC_app, wrC_one, show k0 + cs.length + q.2.length = k0 + (cs ++ q.2).length by rw [List.length_append]; omega, wrC_app]
        have e2 : mtm (mtm m0 cs) q.2 = mtm m0 (cs ++ q.2 ++ [z]) := by
          rw [mtm_app, ← mtm_app (cs' := [z]), mtm_no z4]
        have e3 : k0 + cs.length + q.2.length + 1 = k0 + (cs ++ q.2 ++ [z]).length := by
          rw [List.length_append, List.length_append]
          show _ = k0 + (cs.length + q.2.length + 1)
          omega
        rw [e1, e2, e3, nI_1]
        exact ih n (i + 1) q.1 _ (by omega) (by omega) b3 (by omega) (by rw [← e3]; omega)
    rw [s_TasteReader_term_7]
    unfold s_TasteReader_term_7_b
    rw [if_neg (show ¬ (240 : Int32) ≤ nI i from nI_ge (b := 240) (by omega) (by omega)), show (42 : Int32) = nI 42 from rfl, c_takes h h3 (by omega) (by omega)]
    unfold pLoop
    by_cases q1 : chA B e (sk B e a) = 42
    · have hlt : sk B e a < e := chA_lt (B := B) (by omega)
      simp only [if_pos q1, xb2]
      rw [if_neg (show ¬ (1 : Int32) = 0 by decide), if_pos (show chA B e (sk B e a) = 42 ∨ chA B e (sk B e a) = 47 from Or.inl q1)]
      exact fin (-13) (Or.inl rfl) hlt
    · simp only [if_neg q1, xb2]
      rw [if_pos trivial, show (47 : Int32) = nI 47 from rfl, c_takes h g2 (by omega) (by omega), sk_sk h3]
      by_cases q2 : chA B e (sk B e a) = 47
      · have hlt : sk B e a < e := chA_lt (B := B) (by omega)
        simp only [if_pos q2]
        rw [if_neg (show ¬ (1 : Int32) = 0 by decide), if_pos (show chA B e (sk B e a) = 42 ∨ chA B e (sk B e a) = 47 from Or.inr q2)]
        exact fin (-14) (Or.inr rfl) hlt
      · simp only [if_neg q2]
        rw [if_pos trivial, if_neg (show ¬ (chA B e (sk B e a) = 42 ∨ chA B e (sk B e a) = 47) from fun z => z.elim q1 q2)]
        unfold s_TasteReader_term_49
        rw [if_pos rfl]
        rfl
theorem c_term7S (h : CT σ B e t) {rf : Int32 → LH → Option LH} {F : Nat → TR} {d a k : Nat} {C : Nat → Int32} {m : Int32} (hb : ∀ a, a ≤ e → Bd e a 0 (F a)) (hF : ∀ a C k m, a ≤ e → k + e ≤ 470 + a → CO σ e t C k m (F a) (s_TasteReader_atom rf (nI d) (cS σ t a (-1) C k m))) (ha : a ≤ e) (hk : k + e ≤ 470 + a) : CO σ e t C k m (pSeq (F a) (pLoop B e 42 47 (-13) (-14) F (e + 1))) (xb1 (s_TasteReader_atom rf (nI d) (cS σ t a (-1) C k m)) fun σ2 => s_TasteReader_term_7 rf (nI d) FUEL 0 σ2) := by
  have ht := h.1
  have he := h.2.2.1
  have hf := hF a C k m ha hk
  have hbb := hb a ha
  unfold pSeq
  cases hq : F a with
  | inl f =>
    rw [hq] at hf
    obtain ⟨f1, a', C', k', m', f2, f3, f4⟩ := hf
    rw [f4]
    simp only [xb1]
    rw [c_term7F ht f1 (by unfold FUEL; omega)]
    exact ⟨f1, a', C', k', m', f2, f3, rfl⟩
  | inr q =>
    rw [hq] at hf hbb
    have hf : s_TasteReader_atom rf (nI d) (cS σ t a (-1) C k m) = some (cS σ t q.1 (-1) (wrC C k q.2) (k + q.2.length) (mtm m q.2)) := hf
    have b1 := hbb.1
    have b2 := hbb.2.2
    have b3 := hbb.2.1
    rw [hf]
    simp only [xb1]
    rw [← nI_0]
    exact c_term7L h hb hF (e + 1) FUEL 0 q.1 q.2 (by omega) (by unfold FUEL; omega) b3 (by omega) (by omega)
theorem c_sum7F {rf : Int32 → LH → Option LH} {p0 y : Int32} {n a k g : Nat} {C : Nat → Int32} {m0 : Int32} (ht : 29 ≤ t) (hg : g < 2 ^ 31) (hn : 0 < n) : s_TasteReader_sum_7 rf p0 n y (cS σ t a (nI g) C k m0) = some (cS σ t a (nI g) C k m0) := by
  obtain ⟨n, rfl⟩ : ∃ q, n = q + 1 := ⟨n - 1, by omega⟩
  rw [s_TasteReader_sum_7]
  unfold s_TasteReader_sum_7_b s_TasteReader_sum_49
  by_cases q : 240 ≤ y
  · rw [if_pos q]
  · rw [if_neg q, c_takesF ht hg]
    simp only [xb2]
    rw [if_pos trivial, c_takesF ht hg]
    simp only
    rw [if_pos trivial, if_pos trivial]
theorem c_sum7L (h : CT σ B e t) {rf : Int32 → LH → Option LH} {F : Nat → TR} {d k0 : Nat} {C0 : Nat → Int32} {m0 : Int32} (hb : ∀ a, a ≤ e → Bd e a 0 (F a)) (hF : ∀ a C k m, a ≤ e → k + e ≤ 470 + a → CO σ e t C k m (F a) (s_TasteReader_term rf (nI d) (cS σ t a (-1) C k m))) : ∀ (m n i a : Nat) (cs : List Int32), e < m + a → m ≤ n → a ≤ e → i + e < 240 + a → k0 + cs.length + e ≤ 470 + a → CO σ e t C0 k0 m0 (pLoop B e 43 45 (-11) (-12) F m a cs) (s_TasteReader_sum_7 rf (nI d) n (nI i) (cS σ t a (-1) (wrC C0 k0 cs) (k0 + cs.length) (mtm m0 cs))) := by
  have ht := h.1
  have he := h.2.2.1
  intro m
  induction m with
  | zero => intro n i a cs h1 h2 h3; omega
  | succ m ih =>
    intro n i a cs h1 h2 h3 hi hk
    obtain ⟨n, rfl⟩ : ∃ q, n = q + 1 := ⟨n - 1, by omega⟩
    have g1 := sk_ge (B := B) (e := e) (a := a)
    have g2 := sk_le (B := B) (e := e) (a := a) h3
    have fin : ∀ z : Int32, (z = -11 ∨ z = -12) → sk B e a < e → CO σ e t C0 k0 m0 (pSeq (F (sk B e a + 1)) (fun a' cs' => pLoop B e 43 45 (-11) (-12) F m a' (cs ++ cs' ++ [z]))) (s_TasteReader_sum_49 rf (nI d) (s_TasteReader_sum_7 rf (nI d) n) (nI i) z (cS σ t (sk B e a + 1) (-1) (wrC C0 k0 cs) (k0 + cs.length) (mtm m0 cs))) := by
      intro z hz hlt
      have z4 : z ≠ lco 4 := by rcases hz with rfl | rfl <;> decide
      have z1 : z ≠ -1 := by rcases hz with rfl | rfl <;> decide
      have hf := hF (sk B e a + 1) (wrC C0 k0 cs) (k0 + cs.length) (mtm m0 cs) (by omega) (by omega)
      have hbb := hb (sk B e a + 1) (by omega)
      unfold s_TasteReader_sum_49 pSeq
      rw [if_neg z1]
      cases hq : F (sk B e a + 1) with
      | inl f =>
        rw [hq] at hf
        obtain ⟨f1, a', C', k', m', f2, f3, f4⟩ := hf
        rw [f4]
        simp only [xb1, xl]
        rw [cS_t, h.2.1]
        obtain ⟨r, C2', k2', p1, p2⟩ := c_putG (σ := σ) (a := a') (f := nI f) (C := C') (k := k') (m := m') (x := z) ht f3
        rw [p2]
        simp only [xb2]
        rw [c_sum7F ht f1 (by omega)]
        exact ⟨f1, a', C2', k2', m', f2, p1, rfl⟩
      | inr q =>
        rw [hq] at hf hbb
        have hf : s_TasteReader_term rf (nI d) (cS σ t (sk B e a + 1) (-1) (wrC C0 k0 cs) (k0 + cs.length) (mtm m0 cs)) = some (cS σ t q.1 (-1) (wrC (wrC C0 k0 cs) (k0 + cs.length) q.2) (k0 + cs.length + q.2.length) (mtm (mtm m0 cs) q.2)) := hf
        have b1 := hbb.1
        have b2 := hbb.2.2
        have b3 := hbb.2.1
        rw [hf]
        simp only [xb1, xl]
        rw [cS_t, h.2.1, c_put ht (by omega)]
        simp only [xb2]
        have e1 : upd (wrC (wrC C0 k0 cs) (k0 + cs.length) q.2) (k0 + cs.length + q.2.length) z = wrC C0 k0 (cs ++ q.2 ++ [z]) := by
          rw [wrC_app, wrC_one, show k0 + cs.length + q.2.length = k0 + (cs ++ q.2).length by rw [List.length_append]; omega, wrC_app]
        have e2 : mtm (mtm m0 cs) q.2 = mtm m0 (cs ++ q.2 ++ [z]) := by
          rw [mtm_app, ← mtm_app (cs' := [z]), mtm_no z4]
        have e3 : k0 + cs.length + q.2.length + 1 = k0 + (cs ++ q.2 ++ [z]).length := by
          rw [List.length_append, List.length_append]
          show _ = k0 + (cs.length + q.2.length + 1)
          omega
        rw [e1, e2, e3, nI_1]
        exact ih n (i + 1) q.1 _ (by omega) (by omega) b3 (by omega) (by rw [← e3]; omega)
    rw [s_TasteReader_sum_7]
    unfold s_TasteReader_sum_7_b
    rw [if_neg (show ¬ (240 : Int32) ≤ nI i from nI_ge (b := 240) (by omega) (by omega)), show (43 : Int32) = nI 43 from rfl, c_takes h h3 (by omega) (by omega)]
    unfold pLoop
    by_cases q1 : chA B e (sk B e a) = 43
    · have hlt : sk B e a < e := chA_lt (B := B) (by omega)
      simp only [if_pos q1, xb2]
      rw [if_neg (show ¬ (1 : Int32) = 0 by decide), if_pos (show chA B e (sk B e a) = 43 ∨ chA B e (sk B e a) = 45 from Or.inl q1)]
      exact fin (-11) (Or.inl rfl) hlt
    · simp only [if_neg q1, xb2]
      rw [if_pos trivial, show (45 : Int32) = nI 45 from rfl, c_takes h g2 (by omega) (by omega), sk_sk h3]
      by_cases q2 : chA B e (sk B e a) = 45
      · have hlt : sk B e a < e := chA_lt (B := B) (by omega)
        simp only [if_pos q2]
        rw [if_neg (show ¬ (1 : Int32) = 0 by decide), if_pos (show chA B e (sk B e a) = 43 ∨ chA B e (sk B e a) = 45 from Or.inr q2)]
        exact fin (-12) (Or.inr rfl) hlt
      · simp only [if_neg q2]
        rw [if_pos trivial, if_neg (show ¬ (chA B e (sk B e a) = 43 ∨ chA B e (sk B e a) = 45) from fun z => z.elim q1 q2)]
        unfold s_TasteReader_sum_49
        rw [if_pos rfl]
        rfl
theorem c_sum7S (h : CT σ B e t) {rf : Int32 → LH → Option LH} {F : Nat → TR} {d a k : Nat} {C : Nat → Int32} {m : Int32} (hb : ∀ a, a ≤ e → Bd e a 0 (F a)) (hF : ∀ a C k m, a ≤ e → k + e ≤ 470 + a → CO σ e t C k m (F a) (s_TasteReader_term rf (nI d) (cS σ t a (-1) C k m))) (ha : a ≤ e) (hk : k + e ≤ 470 + a) : CO σ e t C k m (pSeq (F a) (pLoop B e 43 45 (-11) (-12) F (e + 1))) (xb1 (s_TasteReader_term rf (nI d) (cS σ t a (-1) C k m)) fun σ2 => s_TasteReader_sum_7 rf (nI d) FUEL 0 σ2) := by
  have ht := h.1
  have he := h.2.2.1
  have hf := hF a C k m ha hk
  have hbb := hb a ha
  unfold pSeq
  cases hq : F a with
  | inl f =>
    rw [hq] at hf
    obtain ⟨f1, a', C', k', m', f2, f3, f4⟩ := hf
    rw [f4]
    simp only [xb1]
    rw [c_sum7F ht f1 (by unfold FUEL; omega)]
    exact ⟨f1, a', C', k', m', f2, f3, rfl⟩
  | inr q =>
    rw [hq] at hf hbb
    have hf : s_TasteReader_term rf (nI d) (cS σ t a (-1) C k m) = some (cS σ t q.1 (-1) (wrC C k q.2) (k + q.2.length) (mtm m q.2)) := hf
    have b1 := hbb.1
    have b2 := hbb.2.2
    have b3 := hbb.2.1
    rw [hf]
    simp only [xb1]
    rw [← nI_0]
    exact c_sum7L h hb hF (e + 1) FUEL 0 q.1 q.2 (by omega) (by unfold FUEL; omega) b3 (by omega) (by omega)
theorem c_termF {rf : Int32 → LH → Option LH} {p0 : Int32} {a k g : Nat} {C : Nat → Int32} {m0 : Int32} (ht : 29 ≤ t) (hg : g < 2 ^ 31) : s_TasteReader_term rf p0 (cS σ t a (nI g) C k m0) = some (cS σ t a (nI g) C k m0) := by
  unfold s_TasteReader_term
  rw [c_atomF ht hg]
  exact c_term7F ht hg (by unfold FUEL; omega)
theorem c_sumF {n : Nat} {p0 : Int32} {a k g : Nat} {C : Nat → Int32} {m0 : Int32} (ht : 29 ≤ t) (hg : g < 2 ^ 31) (hn : 0 < n) : s_TasteReader_sum n p0 (cS σ t a (nI g) C k m0) = some (cS σ t a (nI g) C k m0) := by
  obtain ⟨n, rfl⟩ : ∃ q, n = q + 1 := ⟨n - 1, by omega⟩
  rw [s_TasteReader_sum]
  unfold s_TasteReader_sum_b
  rw [c_termF ht hg]
  exact c_sum7F ht hg (by unfold FUEL; omega)
theorem c_sum (h : CT σ B e t) : ∀ (n d a : Nat) (C : Nat → Int32) (k : Nat) (m : Int32), d ≤ 6 → 7 ≤ n + d → a ≤ e → k + e ≤ 470 + a → CO σ e t C k m (pSum B e n d a) (s_TasteReader_sum n (nI d) (cS σ t a (-1) C k m)) := by
  have ht := h.1
  intro n
  induction n with
  | zero => intro d a C k m h1 h2; omega
  | succ n ih =>
    intro d a C k m hd hn ha hk
    have hb0 : ∀ d a, a ≤ e → Bd e a 0 (pSum B e n d a) := fun d a ha => pSum_bd n d a ha
    have at1 : ∀ a C k m, a ≤ e → k + e ≤ 470 + a → CO σ e t C k m (pAtom B e (pSum B e n) d a) (s_TasteReader_atom (s_TasteReader_sum n) (nI d) (cS σ t a (-1) C k m)) := fun a C k m ha hk => c_atom h hb0 hd (fun hd2 a C k m ha hk => ih (d + 1) a C k m (by omega) (by omega) ha hk) (fun hd2 a C k m g hg => c_sumF ht hg (by omega)) ha hk
    have te1 : ∀ a C k m, a ≤ e → k + e ≤ 470 + a → CO σ e t C k m (pTerm B e (pSum B e n) d a) (s_TasteReader_term (s_TasteReader_sum n) (nI d) (cS σ t a (-1) C k m)) := fun a C k m ha hk => c_term7S h (fun a ha => pAtom_bd hb0 ha) at1 ha hk
    rw [s_TasteReader_sum]
    exact c_sum7S h (fun a ha => pTerm_bd hb0 ha) te1 ha hk
end
