/-! tastes, the model: its smallest steps on a text -/
def sx (x : Nat) : Int32 := (Int32.toInt8 (nI x)).toInt32
theorem sx_32 : ∀ x, x < 256 → (sx x = 32 ↔ x = 32) := by decide +kernel
theorem sx_255 : ∀ x, x < 256 → sx x &&& 255 = nI x := by decide +kernel
theorem sx_lo : ∀ x, x < 256 → (sx x < 48 ↔ (x < 48 ∨ 128 ≤ x)) := by decide +kernel
theorem sx_hi : ∀ x, x < 256 → (57 < sx x ↔ (57 < x ∧ x < 128)) := by decide +kernel
theorem sx_d : ∀ x, x < 58 → sx x = nI x := by decide +kernel
def oc (c : Nat) : Int32 := if c = 0 then -1 else nI c
theorem oc_eq {c k : Nat} (hc : c < 2 ^ 31) (hk : k < 2 ^ 31) (h0 : k ≠ 0) : oc c = nI k ↔ c = k := by
  unfold oc
  split
  · rename_i z
    exact ⟨fun y => absurd y.symm (nI_m1 hk), fun y => absurd (y.symm.trans z) h0⟩
  · exact nI_eq hc hk
theorem oc_m1 {c : Nat} (hc : c < 2 ^ 31) : oc c = -1 ↔ c = 0 := by
  unfold oc
  split
  · rename_i z; exact ⟨fun _ => z, fun _ => rfl⟩
  · rename_i z; exact ⟨fun y => absurd y (nI_m1 hc), fun y => absurd y z⟩
theorem chA_in {B : Nat → Nat} {e a : Nat} (h : a < e) : chA B e a = B a := if_pos h
theorem chA_out {B : Nat → Nat} {e a : Nat} (h : e ≤ a) : chA B e a = 0 := if_neg (by omega)
theorem oc_0 : oc 0 = -1 := rfl
theorem oc_n {c : Nat} (h : c ≠ 0) : oc c = nI c := if_neg h
/-- where the model stands in a text -/
def mS (τ : LH) (a : Nat) (f : Int32) (d : Nat) : LH := stI (stI (stI τ 570 10 (nI a)) 570 11 f) 570 12 (nI d)
theorem mS_n {τ : LH} {a d b : Nat} {f : Int32} (hb : b ≠ 570) : (mS τ a f d).1 b = τ.1 b := by
  unfold mS
  rw [stI_n hb, stI_n hb, stI_n hb]
theorem mS_f {τ : LH} {a d j : Nat} {f : Int32} (hj : j ≠ 10 ∧ j ≠ 11 ∧ j ≠ 12) : (mS τ a f d).1 570 j = τ.1 570 j := by
  unfold mS
  rw [stI_570, if_neg hj.2.2, stI_570, if_neg hj.2.1, stI_570, if_neg hj.1]
theorem mS_10 {τ : LH} {a d : Nat} {f : Int32} : (mS τ a f d).1 570 10 = nI a := by
  unfold mS
  rw [stI_570, if_neg (by omega), stI_570, if_neg (by omega), stI_570, if_pos rfl]
theorem mS_11 {τ : LH} {a d : Nat} {f : Int32} : (mS τ a f d).1 570 11 = f := by
  unfold mS
  rw [stI_570, if_neg (by omega), stI_570, if_pos rfl]
theorem mS_12 {τ : LH} {a d : Nat} {f : Int32} : (mS τ a f d).1 570 12 = nI d := by
  unfold mS
  rw [stI_570, if_pos rfl]
theorem stI_cm {τ : LH} {b i j : Nat} {u v : Int32} (h : i ≠ j) : stI (stI τ b i u) b j v = stI (stI τ b j v) b i u := by
  unfold stI
  rw [stF_s, stF_s, stF_F, stF_F]
  congr 1
  funext k
  rw [upd_e, upd_e, upd_e, upd_e]
  by_cases q1 : k = j
  · rw [if_pos q1, if_neg (by omega), if_pos q1]
  · rw [if_neg q1, if_neg q1]
theorem stI_ov {τ : LH} {b i : Nat} {u v : Int32} : stI (stI τ b i u) b i v = stI τ b i v := by
  unfold stI
  rw [stF_s, stF_F, upd_upd]
theorem mS_a {τ : LH} {a a' d : Nat} {f : Int32} : stI (mS τ a f d) 570 10 (nI a') = mS τ a' f d := by
  unfold mS
  rw [stI_cm (i := 12) (j := 10) (by omega), stI_cm (i := 11) (j := 10) (by omega), stI_ov]
theorem mS_w {τ : LH} {a d : Nat} {f f' : Int32} : stI (mS τ a f d) 570 11 f' = mS τ a f' d := by
  unfold mS
  rw [stI_cm (i := 12) (j := 11) (by omega), stI_ov]
theorem mS_d {τ : LH} {a d d' : Nat} {f : Int32} : stI (mS τ a f d) 570 12 (nI d') = mS τ a f d' := by
  unfold mS
  rw [stI_ov]
/-- the model's text is this one -/
def TM (τ : LH) (B : Nat → Nat) (e b b0 : Nat) : Prop := τ.2.2.2 = b ∧ ((b = 571 ∧ b0 + e ≤ 240) ∨ (b = 572 ∧ b0 + e ≤ 960)) ∧ τ.1 570 8 = nI b0 ∧ τ.1 570 9 = nI e ∧ ∀ i, i < e → τ.1 b (b0 + i) = sx (B i) ∧ 1 ≤ B i ∧ B i < 256
section
variable {τ : LH} {B : Nat → Nat} {e b b0 a d : Nat} {f : Int32}
theorem TM.mS (h : TM τ B e b b0) : TM (mS τ a f d) B e b b0 := by
  obtain ⟨h1, h2, h3, h4, h5⟩ := h
  refine ⟨h1, h2, ?_, ?_, fun i hi => ?_⟩
  · rw [mS_f (by omega)]; exact h3
  · rw [mS_f (by omega)]; exact h4
  · rw [mS_n (by omega)]; exact h5 i hi
theorem TM.e9 (h : TM τ B e b b0) : e ≤ 960 := by have := h.2.1; omega
theorem TM.ch (h : TM τ B e b b0) : chA B e a < 256 := by
  unfold chA
  split
  · rename_i z; exact (h.2.2.2.2 a z).2.2
  · omega
theorem TM.ib (h : TM τ B e b b0) (ha : a < e) : ib (nI b0 + nI a) (if b = 571 then 240 else 960) := by
  rw [nI_add]
  rcases h.2.1 with ⟨z, y⟩ | ⟨z, y⟩
  · rw [if_pos z]; exact ib_nI (by omega) (by omega)
  · rw [if_neg (by omega)]; exact ib_nI (by omega) (by omega)
theorem TM.cl (h : TM τ B e b b0) (ha : a < e) : (nI b0 + nI a).toNatClampNeg = b0 + a := by
  have := h.2.1
  rw [nI_add, nI_clamp (by omega)]
theorem m_look43 (h : TM τ B e b b0) (ha : a ≤ e) : s_Model_look_43 (mS τ a f d) = some (oc (chA B e a), mS τ a f d) := by
  have h' := h.mS (a := a) (f := f) (d := d)
  have he := h.e9
  unfold s_Model_look_43 s_Model_look_76
  rw [h'.2.2.2.1, mS_10]
  by_cases q : e ≤ a
  · rw [if_pos (nI_le q (by omega))]
    rw [chA_out q, oc_0]
  · rw [if_neg (nI_ge (by omega) (by omega)), h'.1]
    simp only [xl]
    rw [h'.2.2.1, if_pos (h.ib (by omega)), h.cl (by omega), (h'.2.2.2.2 a (by omega)).1, sx_255 _ (h.2.2.2.2 a (by omega)).2.2]
    rw [chA_in (by omega), oc_n (by have := (h.2.2.2.2 a (by omega)).2.1; omega)]
theorem m_look (h : TM τ B e b b0) (ha : a ≤ e) : s_Model_look (mS τ a f d) = some (oc (chA B e (sk B e a)), mS τ (sk B e a) f d) := by
  have he := h.e9
  have main : ∀ (m n a : Nat), a + m = e → m < n → s_Model_look_0 n (mS τ a f d) = some (oc (chA B e (sk B e a)), mS τ (sk B e a) f d) := by
    intro m
    induction m with
    | zero =>
      intro n a ha hn
      obtain ⟨n, rfl⟩ : ∃ q, n = q + 1 := ⟨n - 1, by omega⟩
      rw [s_Model_look_0]
      unfold s_Model_look_0_b
      rw [(h.mS (a := a) (f := f) (d := d)).2.2.2.1, mS_10, if_pos (nI_le (by omega) (by omega)), m_look43 h (by omega), sk_end (by omega)]
    | succ m ih =>
      intro n a ha hn
      obtain ⟨n, rfl⟩ : ∃ q, n = q + 1 := ⟨n - 1, by omega⟩
      have h' := h.mS (a := a) (f := f) (d := d)
      rw [s_Model_look_0]
      unfold s_Model_look_0_b
      rw [h'.2.2.2.1, mS_10, if_neg (nI_ge (by omega) (by omega)), h'.1]
      simp only [xl]
      rw [h'.2.2.1, if_pos (h.ib (by omega)), h.cl (by omega), (h'.2.2.2.2 a (by omega)).1, sk_step (by omega)]
      by_cases q : B a = 32
      · rw [if_pos ((sx_32 _ (h.2.2.2.2 a (by omega)).2.2).mpr q), if_pos q, nI_1, mS_a]
        exact ih n (a + 1) (by omega) (by omega)
      · rw [if_neg (fun y => q ((sx_32 _ (h.2.2.2.2 a (by omega)).2.2).mp y)), if_neg q]
        exact m_look43 h (by omega)
  exact main (e - a) FUEL a (by omega) (by unfold FUEL; omega)
theorem m_isDigit (h : TM τ B e b b0) (ha : a ≤ e) : s_Model_isDigit (mS τ a f d) = some (if 48 ≤ chA B e a ∧ chA B e a ≤ 57 then 1 else 0, mS τ a f d) := by
  have h' := h.mS (a := a) (f := f) (d := d)
  have he := h.e9
  unfold s_Model_isDigit s_Model_isDigit_53 s_Model_isDigit_54
  rw [h'.2.2.2.1, mS_10]
  by_cases q : e ≤ a
  · have : chA B e a = 0 := by unfold chA; rw [if_neg (by omega)]
    rw [if_pos (nI_le q (by omega)), this, if_pos (show zb 0 from Or.inl rfl), if_neg (show ¬ (48 ≤ 0 ∧ 0 ≤ 57) by omega)]
  · have hc : chA B e a = B a := by unfold chA; rw [if_pos (by omega)]
    obtain ⟨b1, b2, b3⟩ := h'.2.2.2.2 a (by omega)
    rw [if_neg (nI_ge (by omega) (by omega)), h'.1]
    simp only [xl]
    rw [h'.2.2.1, if_pos (h.ib (by omega)), h.cl (by omega), b1, hc]
    have h1 := sx_lo _ b3
    have h2 := sx_hi _ b3
    by_cases q1 : sx (B a) < 48
    · rw [if_pos q1, if_pos (show zb 0 from Or.inl rfl), if_neg (show ¬ (48 ≤ B a ∧ B a ≤ 57) by have := h1.mp q1; omega)]
    · rw [if_neg q1, if_pos (h.ib (by omega))]
      have g1 : ¬ (B a < 48 ∨ 128 ≤ B a) := fun y => q1 (h1.mpr y)
      by_cases q2 : 57 < sx (B a)
      · rw [if_pos q2, if_pos (show zb 0 from Or.inl rfl), if_neg (show ¬ (48 ≤ B a ∧ B a ≤ 57) by have := h2.mp q2; omega)]
      · have g2 : ¬ (57 < B a ∧ B a < 128) := fun y => q2 (h2.mpr y)
        rw [if_neg q2, if_pos (show zb 1 from Or.inr rfl), if_pos (show 48 ≤ B a ∧ B a ≤ 57 by omega)]
theorem m_fails : s_Model_fails (mS τ a (-1) d) = some (0, mS τ a (nI a) d) := by
  unfold s_Model_fails s_Model_fails_16
  rw [mS_11, if_pos rfl, mS_10]
  simp only [xl]
  rw [mS_w]
theorem m_takes (h : TM τ B e b b0) (ha : a ≤ e) {c : Nat} (hc : c ≠ 0) (hc2 : c < 256) : s_Model_takes (nI c) (mS τ a (-1) d) = if chA B e (sk B e a) = c then some (1, mS τ (sk B e a + 1) (-1) d) else some (0, mS τ (sk B e a) (nI (sk B e a)) d) := by
  unfold s_Model_takes s_Model_takes_16
  rw [mS_11, if_pos rfl, m_look h ha]
  simp only [xb2]
  have hq := oc_eq (c := chA B e (sk B e a)) (k := c) (by have := h.ch (a := sk B e a); omega) (by omega) hc
  by_cases q : chA B e (sk B e a) = c
  · rw [if_pos (hq.mpr q), if_pos q, mS_10, nI_1, mS_a]
    rfl
  · rw [if_neg (fun y => q (hq.mp y)), if_neg q, m_fails]
    simp only
    rw [if_pos (Or.inl rfl)]
theorem m_goesIn (hd : d ≤ 6) : s_Model_goesIn (mS τ a (-1) d) = if d = 6 then some (0, mS τ a (nI a) d) else some (1, mS τ (a + 1) (-1) (d + 1)) := by
  unfold s_Model_goesIn
  rw [mS_12]
  by_cases q : d = 6
  · rw [if_pos (show nI d = 6 by rw [q]; rfl), if_pos q, m_fails]
    simp only [xb2]
    rw [if_pos (Or.inl rfl)]
  · rw [if_neg (show ¬ nI d = 6 from fun y => q (nI_ij (b := 6) (by omega) (by omega) y)), if_neg q]
    simp only [xl]
    rw [nI_1, mS_d, mS_10, nI_1, mS_a]
end
def amR (p : Nat) (c : Int32) : Nat → Nat → Int32
  | 0, _ => 0
  | m + 1, y => if js_at p (nI y) = c then 1 else amR p c m (y + 1)
theorem am_loop {p L : Nat} {c : Int32} {σ : LH} (hL : xlen.getD p 0 = L) (hL1 : L < 100) : ∀ (m n y : Nat), y + m = L → m < n → s_Model_isAmong_2 p c n (nI y) σ = some (amR p c m y, σ) := by
  intro m
  induction m with
  | zero =>
    intro n y hy hn
    obtain ⟨n, rfl⟩ : ∃ q, n = q + 1 := ⟨n - 1, by omega⟩
    rw [s_Model_isAmong_2]
    unfold s_Model_isAmong_2_b js_len
    rw [hL, if_pos (nI_le (by omega) (by omega))]
    rfl
  | succ m ih =>
    intro n y hy hn
    obtain ⟨n, rfl⟩ : ∃ q, n = q + 1 := ⟨n - 1, by omega⟩
    rw [s_Model_isAmong_2]
    unfold s_Model_isAmong_2_b js_len amR
    rw [hL, if_neg (nI_ge (by omega) (by omega)), if_pos (ib_nI (by omega) (by omega))]
    by_cases q : js_at p (nI y) = c
    · rw [if_pos q, if_pos q]
    · rw [if_neg q, if_neg q]
      simp only [xl]
      rw [nI_1]
      exact ih n (y + 1) (by omega) (by omega)
theorem am_0 : ∀ c, c < 256 → amR 0 (oc c) 6 0 = if (lix c).isSome = true then 1 else 0 := by decide +kernel
theorem am_9 : ∀ c, c < 256 → amR 9 (oc c) 1 0 = if c = 121 then 1 else 0 := by decide +kernel
theorem m_among0 {c : Nat} {σ : LH} (hc : c < 256) : s_Model_isAmong 0 (oc c) σ = some (if (lix c).isSome = true then 1 else 0, σ) := by
  unfold s_Model_isAmong
  rw [← nI_0, am_loop (p := 0) (L := 6) rfl (by omega) 6 FUEL 0 rfl (by unfold FUEL; omega), am_0 c hc]
  rfl
theorem m_among9 {c : Nat} {σ : LH} (hc : c < 256) : s_Model_isAmong 9 (oc c) σ = some (if c = 121 then 1 else 0, σ) := by
  unfold s_Model_isAmong
  rw [← nI_0, am_loop (p := 9) (L := 1) rfl (by omega) 1 FUEL 0 rfl (by unfold FUEL; omega), am_9 c hc]
  rfl
theorem m_isSign {c : Nat} {σ : LH} (hc : c < 256) : s_Model_isSign (oc c) σ = some (if (sgn c).isSome = true then 1 else 0, σ) := by
  unfold s_Model_isSign s_Model_isSign_18 s_Model_isSign_23 sgn
  have h1 := oc_eq (c := c) (k := 61) (by omega) (by omega) (by omega)
  have h2 := oc_eq (c := c) (k := 60) (by omega) (by omega) (by omega)
  have h3 := oc_eq (c := c) (k := 62) (by omega) (by omega) (by omega)
  by_cases q1 : c = 61
  · rw [if_pos (show oc c = 61 from h1.mpr q1), if_pos (show zb 1 from Or.inr rfl), if_pos q1]
    rfl
  · rw [if_neg (show ¬ oc c = 61 from fun y => q1 (h1.mp y)), if_neg q1]
    by_cases q2 : c = 60
    · rw [if_pos (show oc c = 60 from h2.mpr q2), if_pos (show zb 1 from Or.inr rfl), if_pos q2]
      rfl
    · rw [if_neg (show ¬ oc c = 60 from fun y => q2 (h2.mp y)), if_neg q2]
      by_cases q3 : c = 62
      · rw [if_pos (show oc c = 62 from h3.mpr q3), if_pos (show zb 1 from Or.inr rfl), if_pos q3]
        rfl
      · rw [if_neg (show ¬ oc c = 62 from fun y => q3 (h3.mp y)), if_neg q3, if_pos (show zb 0 from Or.inl rfl)]
        rfl
