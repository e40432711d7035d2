/-! the tape, as the room's reader goes along it -/
def tS (σ : LH) (a : Nat) (f : Int32) : LH := stI (stI σ 2 2 (nI a)) 2 3 f
def TT (σ : LH) (B : Nat → Nat) (e : Nat) : Prop := e ≤ 240 ∧ σ.1 2 1 = nI e ∧ ∀ i, i < e → σ.1 3 i = nI (B i) ∧ 1 ≤ B i ∧ B i < 256
section
variable {σ : LH} {a e : Nat} {f : Int32} {B : Nat → Nat}
theorem tS_n {b : Nat} (h2 : b ≠ 2) : (tS σ a f).1 b = σ.1 b := by
  unfold tS
  rw [stI_n h2, stI_n h2]
theorem tS_f {j : Nat} (hj : j ≠ 2 ∧ j ≠ 3) : (tS σ a f).1 2 j = σ.1 2 j := by
  unfold tS
  rw [stI_e, if_neg hj.2, stI_e, if_neg hj.1]
theorem tS_a : (tS σ a f).1 2 2 = nI a := by
  unfold tS
  rw [stI_e, if_neg (by omega), stI_e, if_pos rfl]
theorem tS_w : (tS σ a f).1 2 3 = f := by
  unfold tS
  rw [stI_e, if_pos rfl]
theorem tS_sa {a' : Nat} : stI (tS σ a f) 2 2 (nI a') = tS σ a' f := by
  unfold tS
  rw [stI_cm (i := 3) (j := 2) (by omega), stI_ov]
theorem tS_sw {f' : Int32} : stI (tS σ a f) 2 3 f' = tS σ a f' := by
  unfold tS
  rw [stI_ov]
theorem TT.tS (h : TT σ B e) : TT (tS σ a f) B e := by
  obtain ⟨h1, h2, h3⟩ := h
  exact ⟨h1, by rw [tS_f (by omega)]; exact h2, fun i hi => by rw [tS_n (by omega)]; exact h3 i hi⟩
theorem TT.ch (h : TT σ B e) : chA B e a < 256 := by
  unfold chA
  split
  · rename_i z; exact (h.2.2 a z).2.2
  · omega
theorem r_sign (h : TT σ B e) (ha : a ≤ e) : s_Tape_sign (tS σ a f) = some (oc (chA B e (sk B e a)), tS σ (sk B e a) f) := by
  have he := h.1
  have main : ∀ (r n a : Nat), a + r = e → r < n → s_Tape_sign_0 n (tS σ a f) = some (oc (chA B e (sk B e a)), tS σ (sk B e a) f) := by
    intro r
    induction r with
    | zero =>
      intro n a ha hn
      obtain ⟨n, rfl⟩ : ∃ q, n = q + 1 := ⟨n - 1, by omega⟩
      rw [s_Tape_sign_0]
      unfold s_Tape_sign_0_b s_Tape_sign_67
      rw [tS_a, if_neg (nI_pos (by omega)), h.tS.2.1, if_pos (nI_le (by omega) (by omega)), sk_end (by omega), chA_out (by omega), oc_0]
    | succ r ih =>
      intro n a ha hn
      obtain ⟨n, rfl⟩ : ∃ q, n = q + 1 := ⟨n - 1, by omega⟩
      have h' := h.tS (a := a) (f := f)
      obtain ⟨b1, b2, b3⟩ := h'.2.2 a (by omega)
      rw [s_Tape_sign_0]
      unfold s_Tape_sign_0_b s_Tape_sign_67
      rw [tS_a, if_neg (nI_pos (by omega)), h'.2.1, if_neg (nI_ge (by omega) (by omega)), if_neg (show ¬ (240 : Int32) ≤ nI a from nI_ge (b := 240) (by omega) (by omega)), if_pos (ib_nI (by omega) (by omega)), nI_clamp (show a < 2 ^ 31 by omega), b1, sk_step (by omega)]
      by_cases q : B a = 32
      · rw [if_pos (show nI (B a) = 32 by rw [q]; rfl), if_pos q]
        simp only [xl]
        rw [nI_1, tS_sa]
        exact ih n (a + 1) (by omega) (by omega)
      · rw [if_neg (show ¬ nI (B a) = 32 from fun z => q (nI_ij (b := 32) (by omega) (by omega) z)), if_neg q, if_pos (ib_nI (by omega) (by omega)), chA_in (by omega), oc_n (by omega)]
  exact main (e - a) FUEL a (by omega) (by unfold FUEL; omega)
theorem r_isAtDigit (h : TT σ B e) (ha : a ≤ e) : s_Tape_isAtDigit (tS σ a f) = some (if 48 ≤ chA B e a ∧ chA B e a ≤ 57 then 1 else 0, tS σ a f) := by
  have he := h.1
  have h' := h.tS (a := a) (f := f)
  unfold s_Tape_isAtDigit s_Tape_isAtDigit_62 s_Tape_isAtDigit_63
  rw [tS_a, if_neg (nI_pos (by omega)), h'.2.1]
  by_cases q : e ≤ a
  · rw [if_pos (nI_le q (by omega)), chA_out q, if_pos (show zb 0 from Or.inl rfl), if_neg (show ¬ (48 ≤ 0 ∧ 0 ≤ 57) by omega)]
  · obtain ⟨b1, b2, b3⟩ := h'.2.2 a (by omega)
    rw [if_neg (nI_ge (by omega) (by omega)), if_neg (show ¬ (240 : Int32) ≤ nI a from nI_ge (b := 240) (by omega) (by omega)), if_pos (ib_nI (by omega) (by omega)), nI_clamp (show a < 2 ^ 31 by omega), b1, chA_in (by omega)]
    by_cases q1 : B a < 48
    · rw [if_pos (show nI (B a) < 48 from nI_lt (b := 48) q1 (by omega)), if_pos (show zb 0 from Or.inl rfl), if_neg (show ¬ (48 ≤ B a ∧ B a ≤ 57) by omega)]
    · rw [if_neg (show ¬ nI (B a) < 48 from nI_nlt (b := 48) (by omega) (by omega)), if_pos (ib_nI (by omega) (by omega))]
      by_cases q2 : 57 < B a
      · rw [if_pos (show (57 : Int32) < nI (B a) from nI_lt (a := 57) q2 (by omega)), if_pos (show zb 0 from Or.inl rfl), if_neg (show ¬ (48 ≤ B a ∧ B a ≤ 57) by omega)]
      · rw [if_neg (show ¬ (57 : Int32) < nI (B a) from nI_nlt (b := B a) (a := 57) (by omega) (by omega)), if_pos (show zb 1 from Or.inr rfl), if_pos (show 48 ≤ B a ∧ B a ≤ 57 by omega)]
theorem r_fine : s_Tape_isFine (tS σ a f) = some (if f = -1 then 1 else 0, tS σ a f) := by
  unfold s_Tape_isFine s_Tape_isFine_13
  rw [tS_w]
  by_cases q : f = -1
  · rw [if_pos q, if_pos q, if_pos (show zb 1 from Or.inr rfl)]
  · rw [if_neg q, if_neg q, if_pos (show zb 0 from Or.inl rfl)]
theorem r_fail {x : Int32} : s_Tape_fail x (tS σ a (-1)) = some (tS σ a x) := by
  unfold s_Tape_fail s_Tape_fail_13
  rw [tS_w, if_pos rfl]
  simp only [xl]
  rw [tS_sw]
theorem r_failF {x : Int32} {g : Nat} (hg : g < 2 ^ 31) : s_Tape_fail x (tS σ a (nI g)) = some (tS σ a (nI g)) := by
  unfold s_Tape_fail s_Tape_fail_13
  rw [tS_w, if_neg (nI_m1 hg)]
theorem r_takes (h : TT σ B e) (ha : a ≤ e) {c : Nat} (hc : c ≠ 0) (hc2 : c < 256) : s_Tape_takes (nI c) (tS σ a (-1)) = if chA B e (sk B e a) = c then some (1, tS σ (sk B e a + 1) (-1)) else some (0, tS σ (sk B e a) (-1)) := by
  unfold s_Tape_takes s_Tape_takes_16
  rw [tS_w, if_pos rfl, r_sign h ha]
  simp only [xb2]
  have hq := oc_eq (c := chA B e (sk B e a)) (k := c) (by have := h.ch (a := sk B e a); omega) (by omega) hc
  by_cases q : chA B e (sk B e a) = c
  · rw [if_pos (hq.mpr q), if_pos q]
    simp only [xl]
    rw [tS_a, nI_1, tS_sa]
  · rw [if_neg (fun y => q (hq.mp y)), if_neg q]
theorem r_letter (h : TT σ B e) (ha : a ≤ e) {p : Nat} : s_Tape_letter p (tS σ a f) = some (if chA B e (sk B e a) = 0 then -1 else js_ix p (((Int32.toUInt32 (nI (chA B e (sk B e a)))) % 65536).toInt32), tS σ (sk B e a) f) := by
  have hch := h.ch (a := sk B e a)
  unfold s_Tape_letter s_Tape_letter_20
  rw [r_sign h ha]
  simp only [xb2]
  by_cases q : chA B e (sk B e a) = 0
  · rw [if_pos q, if_pos ((oc_m1 (by omega)).mpr q)]
  · rw [if_neg q, if_neg (fun z => q ((oc_m1 (by omega)).mp z)), oc_n q]
theorem r_num24 (h : TT σ B e) {L : Nat} (hL : L ≤ 4) : ∀ (m n j a v : Nat), j + m = L → m < n → a ≤ e → v < 10 ^ j → s_Tape_number_24 (nI L) n (nI v) (nI j) (tS σ a (-1)) = if 48 ≤ chA B e (pdN B e m a v).2 ∧ chA B e (pdN B e m a v).2 ≤ 57 then some (nI (pdN B e m a v).1, tS σ (pdN B e m a v).2 (nI (pdN B e m a v).2)) else some (nI (pdN B e m a v).1, tS σ (pdN B e m a v).2 (-1)) := by
  have he := h.1
  have end70 : ∀ (a v : Nat), a ≤ e → s_Tape_number_70 (nI L) (nI v) (tS σ a (-1)) = if 48 ≤ chA B e a ∧ chA B e a ≤ 57 then some (nI v, tS σ a (nI a)) else some (nI v, tS σ a (-1)) := by
    intro a v ha
    unfold s_Tape_number_70 s_Tape_number_85
    rw [r_isAtDigit h ha]
    simp only [xb2, ite10]
    by_cases q : 48 ≤ chA B e a ∧ chA B e a ≤ 57
    · rw [if_pos q, if_pos q, tS_a, r_fail]
      rfl
    · rw [if_neg q, if_neg q]
  intro m
  induction m with
  | zero =>
    intro n j a v hj hn ha hv
    obtain ⟨n, rfl⟩ : ∃ q, n = q + 1 := ⟨n - 1, by omega⟩
    rw [s_Tape_number_24]
    unfold s_Tape_number_24_b
    rw [if_pos (nI_le (by omega) (by omega)), end70 a v ha]
    rfl
  | succ m ih =>
    intro n j a v hj hn ha hv
    obtain ⟨n, rfl⟩ : ∃ q, n = q + 1 := ⟨n - 1, by omega⟩
    rw [s_Tape_number_24]
    unfold s_Tape_number_24_b
    rw [if_neg (nI_ge (by omega) (by omega)), r_isAtDigit h ha]
    simp only [xb2, ite10]
    by_cases q : 48 ≤ chA B e a ∧ chA B e a ≤ 57
    · have hlt : a < e := chA_lt (B := B) (by omega)
      have hc : chA B e a = B a := chA_in hlt
      have hp : pdN B e (m + 1) a v = pdN B e m (a + 1) (10 * v + (chA B e a - 48)) := by
        conv => lhs; unfold pdN
        rw [if_pos q]
      have hj4 : 10 ^ j ≤ 1000 := by
        have : j ≤ 3 := by omega
        have := Nat.pow_le_pow_right (n := 10) (by omega) this
        omega
      have ev : nI v * 10 + nI (B a) - 48 = nI (10 * v + (chA B e a - 48)) := by
        rw [show (10 : Int32) = nI 10 from rfl, pk_mul, nI_add, show (48 : Int32) = nI 48 from rfl, pk_sub (by omega), hc]
        congr 1
        omega
      rw [if_pos q, tS_a, if_pos (ib_nI (by omega) (by omega)), nI_clamp (show a < 2 ^ 31 by omega), ((h.tS (a := a) (f := -1)).2.2 a hlt).1]
      simp only [xl]
      rw [nI_1 a, tS_sa, nI_1 j, ev, hp]
      exact ih n (j + 1) (a + 1) _ (by omega) (by omega) (by omega) (by rw [Nat.pow_succ]; omega)
    · have hp : pdN B e (m + 1) a v = (v, a) := by
        unfold pdN
        rw [if_neg q]
      rw [if_neg q, end70 a v ha, hp]
theorem r_number (h : TT σ B e) {L a : Nat} (hL : L ≤ 4) (ha : a ≤ e) : s_Tape_number (nI L) (tS σ a (-1)) = if 48 ≤ chA B e (sk B e a) ∧ chA B e (sk B e a) ≤ 57 then (if 48 ≤ chA B e (pdN B e L (sk B e a) 0).2 ∧ chA B e (pdN B e L (sk B e a) 0).2 ≤ 57 then some (nI (pdN B e L (sk B e a) 0).1, tS σ (pdN B e L (sk B e a) 0).2 (nI (pdN B e L (sk B e a) 0).2)) else some (nI (pdN B e L (sk B e a) 0).1, tS σ (pdN B e L (sk B e a) 0).2 (-1))) else some (0, tS σ (sk B e a) (nI (sk B e a))) := by
  have he := h.1
  have g2 := sk_le (B := B) (e := e) (a := a) ha
  unfold s_Tape_number s_Tape_number_22
  rw [r_sign h ha]
  simp only [xb2]
  rw [r_isAtDigit h g2]
  simp only [ite10]
  by_cases q : 48 ≤ chA B e (sk B e a) ∧ chA B e (sk B e a) ≤ 57
  · rw [if_pos q, if_pos q, ← nI_0, r_num24 h hL L FUEL 0 (sk B e a) 0 (by omega) (by unfold FUEL; omega) g2 (by omega)]
  · rw [if_neg q, if_neg q, tS_a, r_fail]
    simp only [xb1]
    have end70 : s_Tape_number_70 (nI L) 0 (tS σ (sk B e a) (nI (sk B e a))) = some (0, tS σ (sk B e a) (nI (sk B e a))) := by
      unfold s_Tape_number_70 s_Tape_number_85
      rw [r_isAtDigit h g2, if_neg q]
      rfl
    rw [show FUEL = 99999 + 1 from rfl, s_Tape_number_24]
    unfold s_Tape_number_24_b
    rw [r_isAtDigit h g2, if_neg q]
    simp only [xb2]
    by_cases q0 : nI L ≤ 0
    · rw [if_pos q0, end70]
    · rw [if_neg q0]
      exact end70
end
