/-! feed: the bytes of a word -/
def bC (x y : Int32) : Int32 := ((Int32.toUInt32 x) >>> ((Int32.toUInt32 y) &&& Int32.toUInt32 31)).toInt32 &&& 255
def bM (x y : Int32) : Int32 := (x >>> (y &&& 31)) &&& 255
def byv (x : Int32) (k : Nat) : Nat := x.toBitVec.toNat / 2 ^ k % 256
theorem h255 : ∀ i, i < 32 → (255#32).getLsbD i = decide (i < 8) := by decide
theorem L1 (v : BitVec 32) (k : Nat) (hk : k ≤ 24) : v.sshiftRight k &&& 255#32 = v >>> k &&& 255#32 := by
  apply BitVec.eq_of_getLsbD_eq
  intro i hi
  rw [BitVec.getLsbD_and, BitVec.getLsbD_and, BitVec.getLsbD_sshiftRight, BitVec.getLsbD_ushiftRight, h255 i hi]
  by_cases q : i < 8
  · rw [if_pos (by omega)]
    simp [q, hi]
  · simp [q]
theorem L2 (v : BitVec 32) (k : Nat) (hk : k ≤ 24) : (v.sshiftRight k).signExtend 8 = (v >>> k &&& 255#32).signExtend 8 := by
  apply BitVec.eq_of_getLsbD_eq
  intro i hi
  rw [BitVec.getLsbD_signExtend, BitVec.getLsbD_signExtend, if_pos (by omega), if_pos (by omega), BitVec.getLsbD_and, BitVec.getLsbD_sshiftRight, BitVec.getLsbD_ushiftRight, h255 i (by omega), if_pos (by omega)]
  simp [hi]
  omega
theorem bv1 (x : Int32) (y : Int32) (k : Nat) (h : (y = 24 ∧ k = 24) ∨ (y = 16 ∧ k = 16) ∨ (y = 8 ∧ k = 8) ∨ (y = 0 ∧ k = 0)) : bC x y = nI (byv x k) ∧ bM x y = nI (byv x k) ∧ (Int32.toInt8 (x >>> (y &&& 31))).toInt32 = sx (byv x k) := by
  have e : (Int32.ofNat (byv x k)).toBitVec = (x.toBitVec >>> k) &&& 255#32 := by
    unfold byv
    apply BitVec.eq_of_toNat_eq
    simp [Int32.toBitVec_ofNat', BitVec.toNat_and]
    rw [show (255 : Nat) = 2 ^ 8 - 1 by decide, Nat.and_two_pow_sub_one_eq_mod, Nat.shiftRight_eq_div_pow]
    omega
  have hk : k ≤ 24 := by omega
  have e1 : bC x y = nI (byv x k) := by
    apply Int32.toBitVec_inj.mp
    unfold nI
    rw [e]
    unfold bC
    rcases h with ⟨rfl, rfl⟩ | ⟨rfl, rfl⟩ | ⟨rfl, rfl⟩ | ⟨rfl, rfl⟩ <;> rfl
  have e2 : (x >>> (y &&& 31)).toBitVec = x.toBitVec.sshiftRight k := by
    rcases h with ⟨rfl, rfl⟩ | ⟨rfl, rfl⟩ | ⟨rfl, rfl⟩ | ⟨rfl, rfl⟩ <;> rfl
  refine ⟨e1, ?_, ?_⟩
  · apply Int32.toBitVec_inj.mp
    unfold nI bM
    rw [e]
    show (x >>> (y &&& 31)).toBitVec &&& 255#32 = _
    rw [e2]
    exact L1 _ _ hk
  · apply Int32.toBitVec_inj.mp
    unfold sx nI
    show ((x >>> (y &&& 31)).toBitVec.signExtend 8).signExtend 32 = ((Int32.ofNat (byv x k)).toBitVec.signExtend 8).signExtend 32
    rw [e, e2, L2 _ _ hk]
theorem byv_lt {x : Int32} {k : Nat} : byv x k < 256 := Nat.mod_lt _ (by omega)
theorem byv_nz {x : Int32} {k : Nat} (q : ¬ byv x k = 0) : ¬ nI (byv x k) = 0 := by
  rw [← nI_0]
  exact fun z => q (nI_ij (by have := byv_lt (x := x) (k := k); omega) (by omega) z)
/-- the bytes of a word that are left, but for zeros -/
def bl (x : Int32) : Nat → List Nat
  | 0 => []
  | j + 1 => if byv x (8 * j) = 0 then bl x j else byv x (8 * j) :: bl x j
theorem bl_len (x : Int32) : ∀ j, (bl x j).length ≤ j := by
  intro j
  induction j with
  | zero => exact Nat.le_refl 0
  | succ j ih =>
    unfold bl
    by_cases q : byv x (8 * j) = 0
    · rw [if_pos q]; omega
    · rw [if_neg q, List.length_cons]; omega
theorem bl_b (x : Int32) : ∀ j, ∀ b ∈ bl x j, 1 ≤ b ∧ b < 256 := by
  intro j
  induction j with
  | zero => intro b hb; cases hb
  | succ j ih =>
    unfold bl
    intro b hb
    by_cases q : byv x (8 * j) = 0
    · rw [if_pos q] at hb; exact ih b hb
    · rw [if_neg q] at hb
      rcases List.mem_cons.mp hb with rfl | hb
      · exact ⟨by omega, byv_lt⟩
      · exact ih b hb
/-- where a step of the loop stands -/
theorem sh_1 {j : Nat} (hj : j < 4) : nI (8 * (j + 1)) + (-8) = nI (8 * j) := by
  rcases (show j = 0 ∨ j = 1 ∨ j = 2 ∨ j = 3 by omega) with rfl | rfl | rfl | rfl <;> decide
theorem sh_v {x : Int32} {j : Nat} (hj : j < 4) : bC x (nI (8 * j)) = nI (byv x (8 * j)) ∧ bM x (nI (8 * j)) = nI (byv x (8 * j)) ∧ (Int32.toInt8 (x >>> (nI (8 * j) &&& 31))).toInt32 = sx (byv x (8 * j)) := by
  refine bv1 x _ _ ?_
  rcases (show j = 0 ∨ j = 1 ∨ j = 2 ∨ j = 3 by omega) with rfl | rfl | rfl | rfl
  · exact Or.inr (Or.inr (Or.inr ⟨rfl, rfl⟩))
  · exact Or.inr (Or.inr (Or.inl ⟨rfl, rfl⟩))
  · exact Or.inr (Or.inl ⟨rfl, rfl⟩)
  · exact Or.inl ⟨rfl, rfl⟩
/-- bytes put behind the first T -/
def TWc (T : Nat) (l : List Nat) (σ σ' : LH) : Prop := (∀ b, b ≠ 2 → b ≠ 3 → σ'.1 b = σ.1 b) ∧ (∀ j, j ≠ 1 → σ'.1 2 j = σ.1 2 j) ∧ σ'.1 2 1 = nI (T + l.length) ∧ (∀ i, i < T → σ'.1 3 i = σ.1 3 i) ∧ (∀ i, i < l.length → σ'.1 3 (T + i) = nI (l.getD i 0)) ∧ σ'.2 = σ.2
def TWm (T : Nat) (l : List Nat) (τ τ' : LH) : Prop := (∀ b, b ≠ 570 → b ≠ 571 → τ'.1 b = τ.1 b) ∧ (∀ j, j ≠ 6 → τ'.1 570 j = τ.1 570 j) ∧ τ'.1 570 6 = nI (T + l.length) ∧ (∀ i, i < T → τ'.1 571 i = τ.1 571 i) ∧ (∀ i, i < l.length → τ'.1 571 (T + i) = sx (l.getD i 0)) ∧ τ'.2 = τ.2
section
variable {σ σ1 σ2 τ τ1 τ2 : LH} {T : Nat} {l l2 : List Nat} {x : Int32}
theorem gD_app {l l2 : List Nat} {i : Nat} : (l ++ l2).getD i 0 = if i < l.length then l.getD i 0 else l2.getD (i - l.length) 0 := by
  rw [List.getD_eq_getElem?_getD, List.getD_eq_getElem?_getD, List.getD_eq_getElem?_getD, List.getElem?_append]
  by_cases q : i < l.length
  · rw [if_pos q, if_pos q]
  · rw [if_neg q, if_neg q]
theorem TWc.nil (h : σ.1 2 1 = nI T) : TWc T [] σ σ := ⟨fun _ _ _ => rfl, fun _ _ => rfl, h, fun _ _ => rfl, fun i hi => absurd hi (Nat.not_lt_zero i), rfl⟩
theorem TWm.nil (h : τ.1 570 6 = nI T) : TWm T [] τ τ := ⟨fun _ _ _ => rfl, fun _ _ => rfl, h, fun _ _ => rfl, fun i hi => absurd hi (Nat.not_lt_zero i), rfl⟩
theorem TWc.app (h : TWc T l σ σ1) (h2 : TWc (T + l.length) l2 σ1 σ2) : TWc T (l ++ l2) σ σ2 := by
  obtain ⟨a1, a2, a3, a4, a5, a6⟩ := h
  obtain ⟨b1, b2, b3, b4, b5, b6⟩ := h2
  refine ⟨fun b q1 q2 => (b1 b q1 q2).trans (a1 b q1 q2), fun j q => (b2 j q).trans (a2 j q), by rw [b3, List.length_append, Nat.add_assoc], fun i hi => (b4 i (by omega)).trans (a4 i hi), fun i hi => ?_, b6.trans a6⟩
  rw [gD_app]
  by_cases q : i < l.length
  · rw [if_pos q, b4 (T + i) (by omega)]
    exact a5 i q
  · rw [if_neg q]
    rw [List.length_append] at hi
    have := b5 (i - l.length) (by omega)
    rw [show T + l.length + (i - l.length) = T + i by omega] at this
    exact this
theorem TWm.app (h : TWm T l τ τ1) (h2 : TWm (T + l.length) l2 τ1 τ2) : TWm T (l ++ l2) τ τ2 := by
  obtain ⟨a1, a2, a3, a4, a5, a6⟩ := h
  obtain ⟨b1, b2, b3, b4, b5, b6⟩ := h2
  refine ⟨fun b q1 q2 => (b1 b q1 q2).trans (a1 b q1 q2), fun j q => (b2 j q).trans (a2 j q), by rw [b3, List.length_append, Nat.add_assoc], fun i hi => (b4 i (by omega)).trans (a4 i hi), fun i hi => ?_, b6.trans a6⟩
  rw [gD_app]
  by_cases q : i < l.length
  · rw [if_pos q, b4 (T + i) (by omega)]
    exact a5 i q
  · rw [if_neg q]
    rw [List.length_append] at hi
    have := b5 (i - l.length) (by omega)
    rw [show T + l.length + (i - l.length) = T + i by omega] at this
    exact this
theorem TWc.one {b : Nat} (h : σ.1 2 1 = nI T) : TWc T [b] σ (stI (stI σ 3 T (nI b)) 2 1 (nI (T + 1))) := by
  refine ⟨fun c q1 q2 => by rw [stI_n q1, stI_n q2], fun j q => by rw [stI_e, if_neg q, stI_n (by omega)], by rw [stI_e, if_pos rfl]; rfl, fun i hi => by rw [stI_n (by omega), stI_e, if_neg (by omega)], fun i hi => ?_, rfl⟩
  have : i = 0 := by rw [List.length_singleton] at hi; omega
  subst this
  rw [stI_n (by omega), stI_e, if_pos (Nat.add_zero T)]
  rfl
theorem TWm.one {b : Nat} (h : τ.1 570 6 = nI T) : TWm T [b] τ (stI (stI τ 571 T (sx b)) 570 6 (nI (T + 1))) := by
  refine ⟨fun c q1 q2 => by rw [stI_n q1, stI_n q2], fun j q => by rw [stI_570, if_neg q, stI_n (by omega)], by rw [stI_570, if_pos rfl]; rfl, fun i hi => by rw [stI_n (by omega), stI_e, if_neg (by omega)], fun i hi => ?_, rfl⟩
  have : i = 0 := by rw [List.length_singleton] at hi; omega
  subst this
  rw [stI_n (by omega), stI_e, if_pos (Nat.add_zero T)]
  rfl
theorem ta_end {n : Nat} {σ : LH} : s_Tape_add_3 x (n + 1) (nI (8 * 0) + -8) σ = some (1, σ) := by
  rw [s_Tape_add_3]
  unfold s_Tape_add_3_b
  rw [if_pos (by decide)]
theorem ta_step {n j : Nat} (hj : j < 4) (hT : T ≤ 240) (h : σ.1 2 1 = nI T) : s_Tape_add_3 x (n + 1) (nI (8 * (j + 1)) + -8) σ = if byv x (8 * j) = 0 then s_Tape_add_3 x n (nI (8 * j) + -8) σ else if T < 240 then s_Tape_add_3 x n (nI (8 * j) + -8) (stI (stI σ 3 T (nI (byv x (8 * j)))) 2 1 (nI (T + 1))) else some (0, σ) := by
  rw [s_Tape_add_3]
  unfold s_Tape_add_3_b s_Tape_add_63 s_Tape_add_41
  rw [sh_1 hj, if_neg (nI_pos (by omega))]
  simp only [xl]
  rw [show (((Int32.toUInt32 x) >>> ((Int32.toUInt32 (nI (8 * j))) &&& Int32.toUInt32 31)).toInt32 &&& 255) = nI (byv x (8 * j)) from (sh_v hj).1]
  by_cases q : byv x (8 * j) = 0
  · rw [if_pos q, if_pos (by rw [q]; rfl)]
  · rw [if_neg q, if_neg (byv_nz q), h, if_neg (nI_pos (by omega))]
    by_cases q2 : T < 240
    · rw [if_pos q2, if_pos (show nI T < 240 from nI_lt (b := 240) q2 (by omega)), if_pos (ib_nI q2 (by omega)), nI_clamp (show T < 2 ^ 31 by omega), stI_n (a := 3) (b := 2) (by omega), h, nI_1]
    · rw [if_neg q2, if_neg (show ¬ nI T < 240 from fun z => q2 (by rw [show T = 240 by omega] at z; exact absurd z (by decide)))]
theorem ta_ok : ∀ (j n T : Nat) (σ : LH), j ≤ 4 → j < n → T + (bl x j).length ≤ 240 → σ.1 2 1 = nI T → ∃ σ', s_Tape_add_3 x n (nI (8 * j) + -8) σ = some (1, σ') ∧ TWc T (bl x j) σ σ' := by
  intro j
  induction j with
  | zero =>
    intro n T σ hj hn hT h
    obtain ⟨n, rfl⟩ : ∃ q, n = q + 1 := ⟨n - 1, by omega⟩
    exact ⟨σ, ta_end, TWc.nil h⟩
  | succ j ih =>
    intro n T σ hj hn hT h
    obtain ⟨n, rfl⟩ : ∃ q, n = q + 1 := ⟨n - 1, by omega⟩
    rw [ta_step (by omega) (by omega) h]
    unfold bl at hT ⊢
    by_cases q : byv x (8 * j) = 0
    · rw [if_pos q] at hT ⊢
      rw [if_pos q]
      exact ih n T σ (by omega) (by omega) hT h
    · rw [if_neg q] at hT ⊢
      rw [if_neg q]
      rw [List.length_cons] at hT
      rw [if_pos (by omega)]
      obtain ⟨σ', a1, a2⟩ := ih n (T + 1) (stI (stI σ 3 T (nI (byv x (8 * j)))) 2 1 (nI (T + 1))) (by omega) (by omega) (by omega) (by rw [stI_e, if_pos rfl])
      exact ⟨σ', a1, (TWc.one h).app a2⟩
theorem ta_no : ∀ (j n T : Nat) (σ : LH), j ≤ 4 → j < n → T ≤ 240 → 240 < T + (bl x j).length → σ.1 2 1 = nI T → ∃ σ' l', s_Tape_add_3 x n (nI (8 * j) + -8) σ = some (0, σ') ∧ TWc T l' σ σ' := by
  intro j
  induction j with
  | zero =>
    intro n T σ hj hn hT hT2 h
    exact absurd hT2 (by unfold bl; simp only [List.length_nil]; omega)
  | succ j ih =>
    intro n T σ hj hn hT hT2 h
    obtain ⟨n, rfl⟩ : ∃ q, n = q + 1 := ⟨n - 1, by omega⟩
    rw [ta_step (by omega) (by omega) h]
    unfold bl at hT2
    by_cases q : byv x (8 * j) = 0
    · rw [if_pos q] at hT2
      rw [if_pos q]
      exact ih n T σ (by omega) (by omega) hT hT2 h
    · rw [if_neg q] at hT2
      rw [if_neg q]
      rw [List.length_cons] at hT2
      by_cases q2 : T < 240
      · rw [if_pos q2]
        obtain ⟨σ', l', a1, a2⟩ := ih n (T + 1) (stI (stI σ 3 T (nI (byv x (8 * j)))) 2 1 (nI (T + 1))) (by omega) (by omega) (by omega) (by omega) (by rw [stI_e, if_pos rfl])
        exact ⟨σ', _, a1, (TWc.one h).app a2⟩
      · rw [if_neg q2]
        exact ⟨σ, [], rfl, TWc.nil h⟩
theorem mb_in : ∀ (j n c : Nat) (τ : LH), j ≤ 4 → j < n → s_Model_bytesIn_5 x n (nI c) (nI (8 * j) + -8) τ = some (nI (c + (bl x j).length), τ) := by
  intro j
  induction j with
  | zero =>
    intro n c τ hj hn
    obtain ⟨n, rfl⟩ : ∃ q, n = q + 1 := ⟨n - 1, by omega⟩
    rw [s_Model_bytesIn_5]
    unfold s_Model_bytesIn_5_b
    rw [if_pos (by decide)]
    rfl
  | succ j ih =>
    intro n c τ hj hn
    obtain ⟨n, rfl⟩ : ∃ q, n = q + 1 := ⟨n - 1, by omega⟩
    rw [s_Model_bytesIn_5]
    unfold s_Model_bytesIn_5_b s_Model_bytesIn_25
    rw [sh_1 (by omega), if_neg (nI_pos (by omega))]
    simp only [xl]
    rw [show ((x >>> (nI (8 * j) &&& 31)) &&& 255) = nI (byv x (8 * j)) from (sh_v (by omega)).2.1]
    rw [bl]
    by_cases q : byv x (8 * j) = 0
    · rw [if_pos q, if_pos (by rw [q]; rfl)]
      rw [show nI c + 0 = nI c from by rw [← nI_0, nI_add]; rfl]
      exact ih n c τ (by omega) (by omega)
    · rw [if_neg q, if_neg (byv_nz q), nI_1, ih n (c + 1) τ (by omega) (by omega), List.length_cons, show c + 1 + (bl x j).length = c + ((bl x j).length + 1) by omega]
theorem mp_ok : ∀ (j n T : Nat) (τ : LH), j ≤ 4 → j < n → T + (bl x j).length ≤ 240 → τ.1 570 6 = nI T → ∃ τ', s_Model_put_3 x n (nI (8 * j) + -8) τ = some τ' ∧ TWm T (bl x j) τ τ' := by
  intro j
  induction j with
  | zero =>
    intro n T τ hj hn hT h
    obtain ⟨n, rfl⟩ : ∃ q, n = q + 1 := ⟨n - 1, by omega⟩
    refine ⟨τ, ?_, TWm.nil h⟩
    rw [s_Model_put_3]
    unfold s_Model_put_3_b
    rw [if_pos (by decide)]
  | succ j ih =>
    intro n T τ hj hn hT h
    obtain ⟨n, rfl⟩ : ∃ q, n = q + 1 := ⟨n - 1, by omega⟩
    rw [s_Model_put_3]
    unfold s_Model_put_3_b s_Model_put_43
    rw [sh_1 (by omega), if_neg (nI_pos (by omega))]
    simp only [xl]
    rw [show ((x >>> (nI (8 * j) &&& 31)) &&& 255) = nI (byv x (8 * j)) from (sh_v (by omega)).2.1, (sh_v (x := x) (j := j) (by omega)).2.2]
    unfold bl at hT ⊢
    by_cases q : byv x (8 * j) = 0
    · rw [if_pos q] at hT ⊢
      rw [if_pos (by rw [q]; rfl)]
      exact ih n T τ (by omega) (by omega) hT h
    · rw [if_neg q] at hT ⊢
      rw [if_neg (byv_nz q)]
      rw [List.length_cons] at hT
      rw [h, if_pos (ib_nI (by omega) (by omega)), nI_clamp (show T < 2 ^ 31 by omega), stI_n (a := 571) (b := 570) (by omega), h, nI_1]
      have ev : vp_nar .byte (sx (byv x (8 * j))) = sx (byv x (8 * j)) := pk_vb _
      rw [ev]
      obtain ⟨τ', a1, a2⟩ := ih n (T + 1) (stI (stI τ 571 T (sx (byv x (8 * j)))) 570 6 (nI (T + 1))) (by omega) (by omega) (by omega) (by rw [stI_570, if_pos rfl])
      exact ⟨τ', a1, (TWm.one h).app a2⟩
end
