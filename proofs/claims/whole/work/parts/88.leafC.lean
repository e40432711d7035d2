/-! tastes, the class: its smallest steps on a text -/
def cS (σ : LH) (t a : Nat) (f : Int32) (C : Nat → Int32) (k : Nat) (m : Int32) : LH := stI (stI (stF (stI (stI σ 2 2 (nI a)) 2 3 f) (t + 1) C) t 1 (nI k)) t 3 m
/-- the class's text is this one; codes go into the taste at t -/
def CT (σ : LH) (B : Nat → Nat) (e t : Nat) : Prop := 29 ≤ t ∧ σ.2.2.1 = t ∧ e ≤ 240 ∧ σ.1 2 1 = nI e ∧ ∀ i, i < e → σ.1 3 i = nI (B i) ∧ 1 ≤ B i ∧ B i < 256
section
variable {σ : LH} {t a k e : Nat} {f m : Int32} {C : Nat → Int32} {B : Nat → Nat}
theorem cS_n {b : Nat} (ht : 29 ≤ t) (h2 : b ≠ 2) (h3 : b ≠ t) (h4 : b ≠ t + 1) : (cS σ t a f C k m).1 b = σ.1 b := by
  unfold cS
  rw [stI_n h3, stI_n h3, stF_n h4, stI_n h2, stI_n h2]
theorem cS_f {j : Nat} (ht : 29 ≤ t) (hj : j ≠ 2 ∧ j ≠ 3) : (cS σ t a f C k m).1 2 j = σ.1 2 j := by
  unfold cS
  rw [stI_n (by omega), stI_n (by omega), stF_n (by omega), stI_e, if_neg hj.2, stI_e, if_neg hj.1]
theorem cS_a (ht : 29 ≤ t) : (cS σ t a f C k m).1 2 2 = nI a := by
  unfold cS
  rw [stI_n (by omega), stI_n (by omega), stF_n (by omega), stI_e, if_neg (by omega), stI_e, if_pos rfl]
theorem cS_w (ht : 29 ≤ t) : (cS σ t a f C k m).1 2 3 = f := by
  unfold cS
  rw [stI_n (by omega), stI_n (by omega), stF_n (by omega), stI_e, if_pos rfl]
theorem cS_C : (cS σ t a f C k m).1 (t + 1) = C := by
  unfold cS
  rw [stI_n (by omega), stI_n (by omega), stF_s]
theorem cS_k : (cS σ t a f C k m).1 t 1 = nI k := by
  unfold cS
  rw [stI_e, if_neg (by omega), stI_e, if_pos rfl]
theorem cS_m : (cS σ t a f C k m).1 t 3 = m := by
  unfold cS
  rw [stI_e, if_pos rfl]
theorem cS_t : (cS σ t a f C k m).2 = σ.2 := rfl
theorem stIF {σ : LH} {b c i : Nat} {v : Int32} {g : Nat → Int32} (h : b ≠ c) : stI (stF σ c g) b i v = stF (stI σ b i v) c g := by
  unfold stI
  rw [stF_n h, stF_com h.symm]
theorem stII {σ : LH} {b c i j : Nat} {u v : Int32} (h : b ≠ c) : stI (stI σ c j u) b i v = stI (stI σ b i v) c j u := by
  unfold stI
  rw [stF_n h, stF_n h.symm, stF_com h.symm]
theorem cS_sa {a' : Nat} (ht : 29 ≤ t) : stI (cS σ t a f C k m) 2 2 (nI a') = cS σ t a' f C k m := by
  unfold cS
  rw [stII (b := 2) (c := t) (by omega), stII (b := 2) (c := t) (by omega), stIF (b := 2) (c := t + 1) (by omega), stI_cm (b := 2) (i := 3) (j := 2) (by omega), stI_ov]
theorem cS_sw {f' : Int32} (ht : 29 ≤ t) : stI (cS σ t a f C k m) 2 3 f' = cS σ t a f' C k m := by
  unfold cS
  rw [stII (b := 2) (c := t) (by omega), stII (b := 2) (c := t) (by omega), stIF (b := 2) (c := t + 1) (by omega), stI_ov]
theorem cS_sm {m' : Int32} : stI (cS σ t a f C k m) t 3 m' = cS σ t a f C k m' := by
  unfold cS
  rw [stI_ov]
theorem cS_sk {k' : Nat} : stI (cS σ t a f C k m) t 1 (nI k') = cS σ t a f C k' m := by
  unfold cS
  rw [stI_cm (b := t) (i := 3) (j := 1) (by omega), stI_ov]
theorem cS_sC {i : Nat} {v : Int32} (ht : 29 ≤ t) : stI (cS σ t a f C k m) (t + 1) i v = cS σ t a f (upd C i v) k m := by
  unfold cS
  rw [stII (b := t + 1) (c := t) (by omega), stII (b := t + 1) (c := t) (by omega), stI_F]
theorem CT.cS (h : CT σ B e t) : CT (cS σ t a f C k m) B e t := by
  obtain ⟨h1, h2, h3, h4, h5⟩ := h
  exact ⟨h1, h2, h3, by rw [cS_f h1 (by omega)]; exact h4, fun i hi => by rw [cS_n h1 (by omega) (by omega) (by omega)]; exact h5 i hi⟩
theorem CT.ch (h : CT σ B e t) : chA B e a < 256 := by
  unfold chA
  split
  · rename_i z; exact (h.2.2.2.2 a z).2.2
  · omega
theorem c_sign (h : CT σ B e t) (ha : a ≤ e) : s_Tape_sign (cS σ t a f C k m) = some (oc (chA B e (sk B e a)), cS σ t (sk B e a) f C k m) := by
  have he := h.2.2.1
  have main : ∀ (r n a : Nat), a + r = e → r < n → s_Tape_sign_0 n (cS σ t a f C k m) = some (oc (chA B e (sk B e a)), cS σ t (sk B e a) f C k m) := by
    intro r
    induction r with
    | zero =>
      intro n a ha hn
      obtain ⟨n, rfl⟩ : ∃ q, n = q + 1 := ⟨n - 1, by omega⟩
      rw [s_Tape_sign_0]
      unfold s_Tape_sign_0_b s_Tape_sign_67
      rw [cS_a h.1, if_neg (nI_pos (by omega)), h.cS.2.2.2.1, if_pos (nI_le (by omega) (by omega)), sk_end (by omega), chA_out (by omega), oc_0]
    | succ r ih =>
      intro n a ha hn
      obtain ⟨n, rfl⟩ : ∃ q, n = q + 1 := ⟨n - 1, by omega⟩
      have h' := h.cS (a := a) (f := f) (C := C) (k := k) (m := m)
      obtain ⟨b1, b2, b3⟩ := h'.2.2.2.2 a (by omega)
      rw [s_Tape_sign_0]
      unfold s_Tape_sign_0_b s_Tape_sign_67
      rw [cS_a h.1, if_neg (nI_pos (by omega)), h'.2.2.2.1, if_neg (nI_ge (by omega) (by omega)), if_neg (show ¬ (240 : Int32) ≤ nI a from nI_ge (b := 240) (by omega) (by omega)), if_pos (ib_nI (by omega) (by omega)), nI_clamp (show a < 2 ^ 31 by omega), b1, sk_step (by omega)]
      by_cases q : B a = 32
      · rw [if_pos (show nI (B a) = 32 by rw [q]; rfl), if_pos q]
        simp only [xl]
        rw [nI_1, cS_sa h.1]
        exact ih n (a + 1) (by omega) (by omega)
      · rw [if_neg (show ¬ nI (B a) = 32 from fun z => q (nI_ij (b := 32) (by omega) (by omega) z)), if_neg q, if_pos (ib_nI (by omega) (by omega)), chA_in (by omega), oc_n (by omega)]
  exact main (e - a) FUEL a (by omega) (by unfold FUEL; omega)
theorem c_isAtDigit (h : CT σ B e t) (ha : a ≤ e) : s_Tape_isAtDigit (cS σ t a f C k m) = some (if 48 ≤ chA B e a ∧ chA B e a ≤ 57 then 1 else 0, cS σ t a f C k m) := by
  have he := h.2.2.1
  have h' := h.cS (a := a) (f := f) (C := C) (k := k) (m := m)
  unfold s_Tape_isAtDigit s_Tape_isAtDigit_62 s_Tape_isAtDigit_63
  rw [cS_a h.1, if_neg (nI_pos (by omega)), h'.2.2.2.1]
  by_cases q : e ≤ a
  · rw [if_pos (nI_le q (by omega)), chA_out q, if_pos (show zb 0 from Or.inl rfl), if_neg (show ¬ (48 ≤ 0 ∧ 0 ≤ 57) by omega)]
  · obtain ⟨b1, b2, b3⟩ := h'.2.2.2.2 a (by omega)
    rw [if_neg (nI_ge (by omega) (by omega)), if_neg (show ¬ (240 : Int32) ≤ nI a from nI_ge (b := 240) (by omega) (by omega)), if_pos (ib_nI (by omega) (by omega)), nI_clamp (show a < 2 ^ 31 by omega), b1, chA_in (by omega)]
    by_cases q1 : B a < 48
    · rw [if_pos (show nI (B a) < 48 from nI_lt (b := 48) q1 (by omega)), if_pos (show zb 0 from Or.inl rfl), if_neg (show ¬ (48 ≤ B a ∧ B a ≤ 57) by omega)]
    · rw [if_neg (show ¬ nI (B a) < 48 from nI_nlt (b := 48) (by omega) (by omega)), if_pos (ib_nI (by omega) (by omega))]
      by_cases q2 : 57 < B a
      · rw [if_pos (show (57 : Int32) < nI (B a) from nI_lt (a := 57) q2 (by omega)), if_pos (show zb 0 from Or.inl rfl), if_neg (show ¬ (48 ≤ B a ∧ B a ≤ 57) by omega)]
      · rw [if_neg (show ¬ (57 : Int32) < nI (B a) from nI_nlt (b := B a) (a := 57) (by omega) (by omega)), if_pos (show zb 1 from Or.inr rfl), if_pos (show 48 ≤ B a ∧ B a ≤ 57 by omega)]
theorem c_fine (ht : 29 ≤ t) : s_Tape_isFine (cS σ t a f C k m) = some (if f = -1 then 1 else 0, cS σ t a f C k m) := by
  unfold s_Tape_isFine s_Tape_isFine_13
  rw [cS_w ht]
  by_cases q : f = -1
  · rw [if_pos q, if_pos q, if_pos (show zb 1 from Or.inr rfl)]
  · rw [if_neg q, if_neg q, if_pos (show zb 0 from Or.inl rfl)]
theorem c_fail {x : Int32} (ht : 29 ≤ t) : s_Tape_fail x (cS σ t a (-1) C k m) = some (cS σ t a x C k m) := by
  unfold s_Tape_fail s_Tape_fail_13
  rw [cS_w ht, if_pos rfl]
  simp only [xl]
  rw [cS_sw ht]
theorem c_failF {x : Int32} {g : Nat} (ht : 29 ≤ t) (hg : g < 2 ^ 31) : s_Tape_fail x (cS σ t a (nI g) C k m) = some (cS σ t a (nI g) C k m) := by
  unfold s_Tape_fail s_Tape_fail_13
  rw [cS_w ht, if_neg (nI_m1 hg)]
theorem c_takes (h : CT σ B e t) (ha : a ≤ e) {c : Nat} (hc : c ≠ 0) (hc2 : c < 256) : s_Tape_takes (nI c) (cS σ t a (-1) C k m) = if chA B e (sk B e a) = c then some (1, cS σ t (sk B e a + 1) (-1) C k m) else some (0, cS σ t (sk B e a) (-1) C k m) := by
  unfold s_Tape_takes s_Tape_takes_16
  rw [cS_w h.1, if_pos rfl, c_sign h ha]
  simp only [xb2]
  have hq := oc_eq (c := chA B e (sk B e a)) (k := c) (by have := h.ch (a := sk B e a); omega) (by omega) hc
  by_cases q : chA B e (sk B e a) = c
  · rw [if_pos (hq.mpr q), if_pos q]
    simp only [xl]
    rw [cS_a h.1, nI_1, cS_sa h.1]
  · rw [if_neg (fun y => q (hq.mp y)), if_neg q]
theorem c_takesF {c : Int32} {g : Nat} (ht : 29 ≤ t) (hg : g < 2 ^ 31) : s_Tape_takes c (cS σ t a (nI g) C k m) = some (0, cS σ t a (nI g) C k m) := by
  unfold s_Tape_takes s_Tape_takes_16
  rw [cS_w ht, if_neg (nI_m1 hg)]
theorem c_needs (h : CT σ B e t) (ha : a ≤ e) {c : Nat} (hc : c ≠ 0) (hc2 : c < 256) : s_Tape_needs (nI c) (cS σ t a (-1) C k m) = if chA B e (sk B e a) = c then some (cS σ t (sk B e a + 1) (-1) C k m) else some (cS σ t (sk B e a) (nI (sk B e a)) C k m) := by
  unfold s_Tape_needs s_Tape_needs_16
  rw [c_takes h ha hc hc2]
  by_cases q : chA B e (sk B e a) = c
  · rw [if_pos q, if_pos q]
    simp only [xb2]
    rw [if_neg (by decide)]
  · rw [if_neg q, if_neg q]
    simp only [xb2]
    rw [if_pos trivial, cS_a h.1, c_fail h.1]
    rfl
theorem c_needsF {c : Int32} {g : Nat} (ht : 29 ≤ t) (hg : g < 2 ^ 31) : s_Tape_needs c (cS σ t a (nI g) C k m) = some (cS σ t a (nI g) C k m) := by
  unfold s_Tape_needs s_Tape_needs_16
  rw [c_takesF ht hg]
  simp only [xb2]
  rw [if_pos trivial, c_failF ht hg]
  rfl
theorem c_put {x : Int32} (ht : 29 ≤ t) (hk : k < 480) : s_Taste_put t x (cS σ t a f C k m) = some (nI k, cS σ t a f (upd C k x) (k + 1) m) := by
  unfold s_Taste_put
  rw [cS_k, if_neg (nI_pos (by omega)), if_pos (show nI k < 480 from nI_lt (b := 480) hk (by omega)), if_pos (ib_nI hk (by omega)), nI_clamp (by omega)]
  simp only [xl]
  rw [cS_sC ht, cS_k, nI_1, cS_sk, cS_k, nI_pred]
theorem c_putG {x : Int32} (ht : 29 ≤ t) (hk : k ≤ 480) : ∃ r C' k', k' ≤ 480 ∧ s_Taste_put t x (cS σ t a f C k m) = some (r, cS σ t a f C' k' m) := by
  by_cases q : k < 480
  · exact ⟨_, _, k + 1, by omega, c_put ht q⟩
  · refine ⟨-1, C, k, hk, ?_⟩
    unfold s_Taste_put s_Taste_put_19
    rw [cS_k, if_neg (nI_pos (by omega)), if_neg (show ¬ nI k < 480 from nI_nlt (b := 480) (by omega) (by omega))]
end
theorem jx_0 : ∀ c, c < 256 → (c ≠ 0 → js_ix 0 (((Int32.toUInt32 (nI c)) % 65536).toInt32) = oI (lix c)) := by decide +kernel
theorem jx_6 : ∀ c, c < 256 → (c ≠ 0 → (js_ix 6 (((Int32.toUInt32 (nI c)) % 65536).toInt32) = -1 ↔ ¬ (c = 33 ∨ c = 40))) := by decide +kernel
theorem jx_7 : ∀ c, c < 256 → (c ≠ 0 → (js_ix 7 (((Int32.toUInt32 (nI c)) % 65536).toInt32) = -1 ↔ ¬ (sgn c).isSome = true)) := by decide +kernel
section
variable {σ : LH} {t a k e : Nat} {f m : Int32} {C : Nat → Int32} {B : Nat → Nat}
theorem c_letter (h : CT σ B e t) (ha : a ≤ e) {p : Nat} : s_Tape_letter p (cS σ t a f C k m) = some (if chA B e (sk B e a) = 0 then -1 else js_ix p (((Int32.toUInt32 (nI (chA B e (sk B e a)))) % 65536).toInt32), cS σ t (sk B e a) f C k m) := by
  have hch := h.ch (a := sk B e a)
  unfold s_Tape_letter s_Tape_letter_20
  rw [c_sign h ha]
  simp only [xb2]
  by_cases q : chA B e (sk B e a) = 0
  · rw [if_pos q, if_pos ((oc_m1 (by omega)).mpr q)]
  · rw [if_neg q, if_neg (fun z => q ((oc_m1 (by omega)).mp z)), oc_n q]
theorem c_letter0 (h : CT σ B e t) (ha : a ≤ e) : s_Tape_letter 0 (cS σ t a f C k m) = some (oI (lix (chA B e (sk B e a))), cS σ t (sk B e a) f C k m) := by
  rw [c_letter h ha]
  by_cases q : chA B e (sk B e a) = 0
  · rw [if_pos q, q]; rfl
  · rw [if_neg q, jx_0 _ h.ch q]
theorem c_letter6 (h : CT σ B e t) (ha : a ≤ e) : ∃ r, s_Tape_letter 6 (cS σ t a f C k m) = some (r, cS σ t (sk B e a) f C k m) ∧ (r = -1 ↔ ¬ (chA B e (sk B e a) = 33 ∨ chA B e (sk B e a) = 40)) := by
  refine ⟨_, c_letter h ha, ?_⟩
  by_cases q : chA B e (sk B e a) = 0
  · rw [if_pos q, q]
    exact ⟨fun _ z => by omega, fun _ => rfl⟩
  · rw [if_neg q]; exact jx_6 _ h.ch q
theorem c_letter7 (h : CT σ B e t) (ha : a ≤ e) : ∃ r, s_Tape_letter 7 (cS σ t a f C k m) = some (r, cS σ t (sk B e a) f C k m) ∧ (r = -1 ↔ ¬ (sgn (chA B e (sk B e a))).isSome = true) := by
  refine ⟨_, c_letter h ha, ?_⟩
  by_cases q : chA B e (sk B e a) = 0
  · rw [if_pos q, q]
    exact ⟨fun _ z => absurd z (by decide), fun _ => rfl⟩
  · rw [if_neg q]; exact jx_7 _ h.ch q
end
