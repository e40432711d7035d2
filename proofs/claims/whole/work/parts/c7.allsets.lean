/-! been: all sets, in the model -/
theorem sub_bits {k m : Nat} (hk : k < 1024) (hm : m < 1024) : (nI k &&& (nI m ^^^ (-1))) = 0 ↔ ∀ g, g < 10 → k.testBit g = true → m.testBit g = true := by
  have e : (nI k &&& (nI m ^^^ (-1))).toBitVec = BitVec.ofNat 32 k &&& (BitVec.ofNat 32 m ^^^ (-1#32)) := rfl
  have b1 : ∀ i, i < 32 → (-1#32).getLsbD i = true := by decide
  have gl : ∀ i, i < 32 → (BitVec.ofNat 32 k &&& (BitVec.ofNat 32 m ^^^ (-1#32))).getLsbD i = (k.testBit i && !(m.testBit i)) := by
    intro i hi
    rw [BitVec.getLsbD_and, BitVec.getLsbD_xor, BitVec.getLsbD_ofNat, BitVec.getLsbD_ofNat, b1 i hi, decide_eq_true hi, Bool.true_and, Bool.true_and, Bool.xor_true]
  rw [← Int32.toBitVec_inj, e]
  show _ = 0#32 ↔ _
  constructor
  · intro h g hg hkg
    have := congrArg (fun v => v.getLsbD g) h
    rw [gl g (by omega), hkg, Bool.true_and, BitVec.getLsbD_zero] at this
    cases hmg : m.testBit g with
    | true => rfl
    | false => rw [hmg] at this; cases this
  · intro h
    apply BitVec.eq_of_getLsbD_eq
    intro i hi
    rw [gl i hi, BitVec.getLsbD_zero]
    by_cases q : i < 10
    · cases hki : k.testBit i with
      | false => rfl
      | true => rw [h i q hki]; rfl
    · have e2 : (2 : Nat) ^ 10 ≤ 2 ^ i := Nat.pow_le_pow_right (by omega) (by omega)
      rw [Nat.testBit_lt_two_pow (show k < 2 ^ i by omega)]
      rfl
/-- who is still to go, as a set -/
def mkR (lv : Nat → Nat) (a : Nat) : Nat → Nat
  | 0 => 0
  | g + 1 => mkR lv a g ||| (if lv g < a then 0 else 2 ^ g)
theorem mkR_lt {lv : Nat → Nat} {a : Nat} : ∀ n, n ≤ 10 → mkR lv a n < 1024 := by
  intro n
  induction n with
  | zero => intro _; show 0 < 1024; omega
  | succ n ih =>
    intro hn
    show mkR lv a n ||| (if lv n < a then 0 else 2 ^ n) < 1024
    by_cases q : lv n < a
    · rw [if_pos q, Nat.or_zero]; exact ih (by omega)
    · rw [if_neg q]; exact (bits_s (ih (by omega)) (show n < 10 by omega)).2.2
theorem mkR_bit {lv : Nat → Nat} {a j : Nat} : ∀ n, (mkR lv a n).testBit j = decide (j < n ∧ ¬ lv j < a) := by
  intro n
  induction n with
  | zero =>
    show Nat.testBit 0 j = _
    rw [Nat.zero_testBit, decide_eq_false (fun z => absurd z.1 (by omega))]
  | succ n ih =>
    show (mkR lv a n ||| (if lv n < a then 0 else 2 ^ n)).testBit j = _
    by_cases q : lv n < a
    · rw [if_pos q, Nat.or_zero, ih]
      by_cases z : j < n ∧ ¬ lv j < a
      · rw [decide_eq_true z, decide_eq_true ⟨by omega, z.2⟩]
      · rw [decide_eq_false z, decide_eq_false (fun w => z ⟨by
          by_cases e : j = n
          · subst e; exact absurd q w.2
          · omega, w.2⟩)]
    · rw [if_neg q, tb_or, ih]
      by_cases e : n = j
      · subst e
        rw [decide_eq_true rfl, Bool.or_true, decide_eq_true ⟨by omega, q⟩]
      · rw [decide_eq_false e, Bool.or_false]
        by_cases z : j < n ∧ ¬ lv j < a
        · rw [decide_eq_true z, decide_eq_true ⟨by omega, z.2⟩]
        · rw [decide_eq_false z, decide_eq_false (fun w => z ⟨by omega, w.2⟩)]
theorem exk_mk {lv cm : Nat → Nat} {n0 a C s : Nat} (hn : n0 ≤ 10) (hl : ∀ g, g < n0 → lv g < 100) (hQ : LUq lv n0 a 100 0 C cm) (hs : s < 1024) : EXk C cm 0 0 s ↔ ∀ g, g < 10 → s.testBit g = true → (mkR lv a n0).testBit g = true := by
  constructor
  · intro h g hg hb
    rw [mkR_bit]
    by_cases q : g < n0 ∧ ¬ lv g < a
    · exact decide_eq_true q
    · have := h.2 g hg (fun d _ hd z => q (by
        obtain ⟨a1, a2, -⟩ := hQ.1 d hd
        rw [z] at a1 a2
        exact ⟨a1, by omega⟩))
      rw [Nat.zero_testBit, hb] at this
      cases this
  · intro h
    refine ⟨hs, fun g hg hd => ?_⟩
    rw [Nat.zero_testBit]
    cases hb : s.testBit g with
    | false => rfl
    | true =>
      have z := h g hg hb
      rw [mkR_bit] at z
      have w := of_decide_eq_true z
      obtain ⟨d, d1, d2⟩ := hQ.2.2 g w.1 (by omega) (Or.inl (hl g w.1))
      exact absurd d2 (hd d (by omega) d1)
section
variable {I : LH → Prop} {σ τ σ' τ' σ0 τ0 : LH} {S P n0 n E mm M T C k s s' : Nat} {go who cm lv : Nat → Nat} {whr : Nat → Int32} {L : Nat → Nat → Nat → Int32} {ln : Nat → Nat → Nat → Nat} {qn sn : Nat → Nat} {x : Int32} {b : Bool}
theorem m_mask {x : Int32} (hn : n0 ≤ 10) (h28 : τ.1 570 28 = nI n0) (h48 : τ.1 583 48 = nI mm) (hm : mm < 100) (hl : ∀ g, g < n0 → τ.1 579 (3 * g + 1) = nI (lv g) ∧ lv g < 100) : ∀ (m f g : Nat), g + m = n0 → m < f → s_Model_been_23 x f (nI (mkR lv mm g)) (nI g) τ = s_Model_been_72 x FUEL (nI (mkR lv mm n0)) 0 0 τ := by
  intro m
  induction m with
  | zero =>
    intro f g hg hf
    obtain ⟨f, rfl⟩ : ∃ q, f = q + 1 := ⟨f - 1, by omega⟩
    rw [s_Model_been_23]
    unfold s_Model_been_23_b
    rw [h28, show g = n0 by omega, if_pos (Int32.le_refl _)]
  | succ m ih =>
    intro f g hg hf
    obtain ⟨f, rfl⟩ : ∃ q, f = q + 1 := ⟨f - 1, by omega⟩
    obtain ⟨l1, l2⟩ := hl g (by omega)
    rw [s_Model_been_23]
    unfold s_Model_been_23_b s_Model_been_59
    rw [h28, if_neg (nI_ge (by omega) (by omega)), show (3 : Int32) * nI g + 1 = nI (3 * g + 1) from by rw [show (3 : Int32) = nI 3 from rfl, pk_mul, nI_1], if_pos (ib_nI (by omega) (by omega)), if_pos (show ib 48 290 by decide), nI_clamp (show 3 * g + 1 < 2 ^ 31 by omega), l1, show τ.1 583 (Int32.toNatClampNeg 48) = nI mm from h48, nI_1, xl_so, xl_so, xl_so, xl_so]
    have hlt := mkR_lt (lv := lv) (a := mm) g (by omega)
    by_cases q : lv g < mm
    · rw [if_pos ((nI_ltI (by omega) (by omega)).mpr q), Int32.or_zero]
      have e : mkR lv mm (g + 1) = mkR lv mm g := by
        show mkR lv mm g ||| (if lv g < mm then 0 else 2 ^ g) = _
        rw [if_pos q, Nat.or_zero]
      have := ih f (g + 1) (by omega) (by omega)
      rw [e] at this
      exact this
    · rw [if_neg (fun z => q ((nI_ltI (by omega) (by omega)).mp z)), (bits_s hlt (show g < 10 by omega)).2.1]
      have e : mkR lv mm (g + 1) = mkR lv mm g ||| 2 ^ g := by
        show mkR lv mm g ||| (if lv g < mm then 0 else 2 ^ g) = _
        rw [if_neg q]
      have := ih f (g + 1) (by omega) (by omega)
      rw [e] at this
      exact this
/-- the sets one by one -/
theorem m_sets (hD : Idep I) (hL : LKok I P S L) (hT : T ≤ 8) (hwP : ∀ i, i < T → who i < P) {mk : Nat} (hmk : mk < 1024) {fb : Nat → Bool} (hf0 : ∀ s, s < 1024 → ¬ (∀ g, g < 10 → s.testBit g = true → mk.testBit g = true) → fb s = false) (hf1 : ∀ s, s < 1024 → (∀ g, g < 10 → s.testBit g = true → mk.testBit g = true) → OUTs L τ0 S P n0 E mm go T who whr (τ0.1 583) (nI s) (fb s)) : ∀ (m f k : Nat) (y : Int32) (τ : LH), k + m = mk + 1 → m < f → QX I σ τ S P n0 n E go L ln qn sn mm M → TDm τ T who whr → FT scM τ0 τ → ∃ τ', s_Model_been_72 x f (nI mk) y (nI k) τ = some (fiR fb x m k y, τ') ∧ FT scM τ τ' ∧ QX I σ τ' S P n0 n E go L ln qn sn mm M := by
  intro m
  induction m with
  | zero =>
    intro f k y τ hk hf X ht fτ
    obtain ⟨f, rfl⟩ : ∃ q, f = q + 1 := ⟨f - 1, by omega⟩
    refine ⟨τ, ?_, FT.rf, X⟩
    rw [s_Model_been_72]
    unfold s_Model_been_72_b s_Model_been_126
    rw [if_pos ((nI_ltI (by omega) (by omega)).mpr (by omega))]
    show _ = some (if x = -1 then y else -1, τ)
    by_cases q : x = -1
    · rw [if_pos q, if_pos q]
    · rw [if_neg q, if_neg q]
  | succ m ih =>
    intro f k y τ hk hf X ht fτ
    obtain ⟨f, rfl⟩ : ∃ q, f = q + 1 := ⟨f - 1, by omega⟩
    have eu : s_Model_been_72 x (f + 1) (nI mk) y (nI k) τ = s_Model_been_72_b x (s_Model_been_72 x f) (nI mk) y (nI k) τ := by rw [s_Model_been_72]
    rw [eu]
    unfold s_Model_been_72_b s_Model_been_110
    rw [if_neg (nI_nlt (a := mk) (b := k) (by omega) (by omega))]
    by_cases q : ∀ g, g < 10 → k.testBit g = true → mk.testBit g = true
    · rw [if_pos ((sub_bits (by omega) hmk).mpr q)]
      obtain ⟨τ1, a1, a2, a3, a4⟩ := m_isSoS hD hL X hT hwP ht fτ (hf1 k (by omega) q)
      rw [a1, xb2_so]
      show ∃ τ', _ = some (if fb k = true then (if y = x then nI k else fiR fb x m (k + 1) (y + 1)) else fiR fb x m (k + 1) y, τ') ∧ _
      by_cases hb : fb k = true
      · rw [if_pos hb, if_pos hb, if_neg (show ¬ (1 : Int32) = 0 by decide)]
        by_cases q2 : y = x
        · rw [if_pos q2, if_pos q2]
          exact ⟨τ1, rfl, a2, a3⟩
        · rw [if_neg q2, if_neg q2, xl_so, nI_1, xl_so]
          obtain ⟨τ2, d1, d2, d3⟩ := ih f (k + 1) (y + 1) τ1 (by omega) (by omega) a3 a4 (fτ.tr a2)
          exact ⟨τ2, d1, a2.tr d2, d3⟩
      · rw [if_neg hb, if_neg hb, if_pos rfl, nI_1, xl_so]
        obtain ⟨τ2, d1, d2, d3⟩ := ih f (k + 1) y τ1 (by omega) (by omega) a3 a4 (fτ.tr a2)
        exact ⟨τ2, d1, a2.tr d2, d3⟩
    · rw [if_neg (fun z => q ((sub_bits (by omega) hmk).mp z)), nI_1, xl_so]
      obtain ⟨τ2, d1, d2, d3⟩ := ih f (k + 1) y τ (by omega) (by omega) X ht fτ
      refine ⟨τ2, ?_, d2, d3⟩
      show _ = some (if fb k = true then (if y = x then nI k else fiR fb x m (k + 1) (y + 1)) else fiR fb x m (k + 1) y, τ2)
      rw [hf0 k (by omega) q, if_neg (show ¬ false = true by decide)]
      exact d1
end
