/-! likings in the class: all of them -/
section
variable {σ σ' : LH} {S P F hd sc : Nat} {wn mn xn qn : Nat → Nat} {held : Option Nat} {CLs : Nat → CL}
theorem f_in (hmn0 : ∀ s, s < S → mn s < 2 ^ 20) {rec2 : Int32 → LH → Option LH} {m p : Nat} (hm : m < 100) (hp : p < P) (hS8 : S ≤ 8) : ∀ (r n s : Nat) (σ : LH), s + r = S → r < n → RC σ S P F wn mn xn qn → HT σ hd sc held CLs → ∃ σ', s_Likings_fill_16 (nI m) hd rec2 n (nI p) (nI s) σ = rec2 (nI (p + 1)) σ' ∧ FR (wFl sc) σ σ' ∧ (∀ s', s ≤ s' → s' < S → σ'.1 34 (m * 64 + p * 8 + s') = Lf F wn mn xn qn held CLs m p s') ∧ ∀ j, (∀ s', s ≤ s' → s' < S → j ≠ m * 64 + p * 8 + s') → σ'.1 34 j = σ.1 34 j := by
  intro r
  induction r with
  | zero =>
    intro n s σ hs hn R H
    obtain ⟨n, rfl⟩ : ∃ q, n = q + 1 := ⟨n - 1, by omega⟩
    refine ⟨σ, ?_, FR.rf, fun s' h1 h2 => by omega, fun _ _ => rfl⟩
    rw [s_Likings_fill_16]
    unfold s_Likings_fill_16_b
    rw [R.1, if_pos (nI_le (by omega) (by omega))]
    simp only [xl]
    rw [nI_1]
  | succ r ih =>
    intro n s σ hs hn R H
    obtain ⟨n, rfl⟩ : ∃ q, n = q + 1 := ⟨n - 1, by omega⟩
    obtain ⟨σ1, e1, e2, e3⟩ := f_16 (rec2 := rec2) (n := n) hmn0 R H hm hp (show s < S by omega)
    obtain ⟨σ2, g1, g2, g3, g4⟩ := ih n (s + 1) σ1 (by omega) (by omega) (R.fr H.1 e2) (H.fr e2)
    refine ⟨σ2, e1.trans g1, e2.tr g2, fun s' h1 h2 => ?_, fun j hj => ?_⟩
    · by_cases q : s' = s
      · subst q
        rw [g4 _ (fun s'' y1 y2 => by omega), e3, pk_us]
      · exact g3 s' (by omega) h2
    · rw [g4 j (fun s' y1 y2 => hj s' (by omega) y2), e3, pk_un (hj s (by omega) (by omega))]
theorem f_out (hmn0 : ∀ s, s < S → mn s < 2 ^ 20) {m : Nat} (hm : m < 100) (hS8 : S ≤ 8) (hP8 : P ≤ 8) : ∀ (r n p : Nat) (σ : LH), p + r = P → r < n → RC σ S P F wn mn xn qn → HT σ hd sc held CLs → ∃ σ', s_Likings_fill_2 (nI m) hd n (nI p) σ = some σ' ∧ FR (wFl sc) σ σ' ∧ (∀ p' s, p ≤ p' → p' < P → s < S → σ'.1 34 (m * 64 + p' * 8 + s) = Lf F wn mn xn qn held CLs m p' s) ∧ ∀ j, (∀ p' s, p ≤ p' → p' < P → s < S → j ≠ m * 64 + p' * 8 + s) → σ'.1 34 j = σ.1 34 j := by
  intro r
  induction r with
  | zero =>
    intro n p σ hp hn R H
    obtain ⟨n, rfl⟩ : ∃ q, n = q + 1 := ⟨n - 1, by omega⟩
    refine ⟨σ, ?_, FR.rf, fun p' s h1 h2 => by omega, fun _ _ => rfl⟩
    rw [s_Likings_fill_2]
    unfold s_Likings_fill_2_b
    rw [R.2.2.1, if_pos (nI_le (by omega) (by omega))]
  | succ r ih =>
    intro n p σ hp hn R H
    obtain ⟨n, rfl⟩ : ∃ q, n = q + 1 := ⟨n - 1, by omega⟩
    obtain ⟨σ1, e1, e2, e3, e4⟩ := f_in (rec2 := s_Likings_fill_2 (nI m) hd n) hmn0 hm (show p < P by omega) hS8 S FUEL 0 σ (by omega) (by unfold FUEL; omega) R H
    obtain ⟨σ2, g1, g2, g3, g4⟩ := ih n (p + 1) σ1 (by omega) (by omega) (R.fr H.1 e2) (H.fr e2)
    refine ⟨σ2, ?_, e2.tr g2, fun p' s h1 h2 h3 => ?_, fun j hj => ?_⟩
    · rw [s_Likings_fill_2]
      unfold s_Likings_fill_2_b
      rw [R.2.2.1, if_neg (nI_ge (by omega) (by omega)), ← nI_0, e1]
      exact g1
    · by_cases q : p' = p
      · subst q
        rw [g4 _ (fun p'' s'' y1 y2 y3 => by omega)]
        exact e3 s (by omega) h3
      · exact g3 p' s (by omega) h2 h3
    · rw [g4 j (fun p' s' y1 y2 y3 => hj p' s' (by omega) y2 y3), e4 j (fun s' y1 y2 => hj p s' (by omega) (by omega) y2)]
theorem c_fill (hmn0 : ∀ s, s < S → mn s < 2 ^ 20) {m : Nat} (hm : m < 100) (R : RC σ S P F wn mn xn qn) (H : HT σ hd sc held CLs) : ∃ σ', s_Likings_fill (nI m) hd σ = some σ' ∧ FR (wFl sc) σ σ' ∧ (∀ p s, p < P → s < S → tbC σ' m p s = Lf F wn mn xn qn held CLs m p s) ∧ ∀ r, r ≠ m → ∀ p s, p < P → s < S → tbC σ' r p s = tbC σ r p s := by
  have hS8 := R.2.1
  have hP8 := R.2.2.2.1
  obtain ⟨σ', e1, e2, e3, e4⟩ := f_out (hd := hd) (sc := sc) (held := held) (CLs := CLs) hmn0 hm hS8 hP8 P FUEL 0 σ (by omega) (by unfold FUEL; omega) R H
  rw [nI_0] at e1
  exact ⟨σ', e1, e2, fun p s hp hs => e3 p s (by omega) hp hs, fun r hr p s hp hs => e4 _ (fun p' s' _ y2 y3 => by omega)⟩
theorem f_like {r1 r2 : Nat} (h1 : r1 < 100) (h2 : r2 < 100) (hS : σ.1 4 0 = nI S) (hS8 : S ≤ 8) (hP : σ.1 4 1 = nI P) (hP8 : P ≤ 8) : ∃ b, s_Likings_isAlike (nI r1) (nI r2) σ = some (b, σ) ∧ (b ≠ 0 → ∀ p s, p < P → s < S → tbC σ r1 p s = tbC σ r2 p s) := by
  have inn : ∀ (rec2 : Int32 → LH → Option (Int32 × LH)) (p : Nat), p < P → ∀ (r n s : Nat), s + r = S → r < n → (s_Likings_isAlike_16 (nI r1) (nI r2) rec2 n (nI p) (nI s) σ = some (0, σ)) ∨ (s_Likings_isAlike_16 (nI r1) (nI r2) rec2 n (nI p) (nI s) σ = rec2 (nI (p + 1)) σ ∧ ∀ s', s ≤ s' → s' < S → tbC σ r1 p s' = tbC σ r2 p s') := by
    intro rec2 p hp r
    induction r with
    | zero =>
      intro n s hs hn
      obtain ⟨n, rfl⟩ : ∃ q, n = q + 1 := ⟨n - 1, by omega⟩
      refine Or.inr ⟨?_, fun s' y1 y2 => by omega⟩
      rw [s_Likings_isAlike_16]
      unfold s_Likings_isAlike_16_b
      rw [hS, if_pos (nI_le (by omega) (by omega))]
      simp only [xl]
      rw [nI_1]
    | succ r ih =>
      intro n s hs hn
      obtain ⟨n, rfl⟩ : ∃ q, n = q + 1 := ⟨n - 1, by omega⟩
      rw [s_Likings_isAlike_16]
      unfold s_Likings_isAlike_16_b
      rw [hS, if_neg (nI_ge (by omega) (by omega)), l_at h1 (by omega) (by omega)]
      simp only [xb2]
      rw [l_at h2 (by omega) (by omega)]
      simp only
      by_cases q : σ.1 34 (r1 * 64 + p * 8 + s) = σ.1 34 (r2 * 64 + p * 8 + s)
      · rw [if_pos q]
        simp only [xl]
        rw [nI_1]
        rcases ih n (s + 1) (by omega) (by omega) with z | ⟨z1, z2⟩
        · exact Or.inl z
        · refine Or.inr ⟨z1, fun s' y1 y2 => ?_⟩
          by_cases e : s' = s
          · subst e; exact q
          · exact z2 s' (by omega) y2
      · rw [if_neg q]
        exact Or.inl rfl
  have out : ∀ (r n p : Nat), p + r = P → r < n → ∃ b, s_Likings_isAlike_2 (nI r1) (nI r2) n (nI p) σ = some (b, σ) ∧ (b ≠ 0 → ∀ p' s, p ≤ p' → p' < P → s < S → tbC σ r1 p' s = tbC σ r2 p' s) := by
    intro r
    induction r with
    | zero =>
      intro n p hp hn
      obtain ⟨n, rfl⟩ : ∃ q, n = q + 1 := ⟨n - 1, by omega⟩
      refine ⟨1, ?_, fun _ p' s y1 y2 => by omega⟩
      rw [s_Likings_isAlike_2]
      unfold s_Likings_isAlike_2_b
      rw [hP, if_pos (nI_le (by omega) (by omega))]
    | succ r ih =>
      intro n p hp hn
      obtain ⟨n, rfl⟩ : ∃ q, n = q + 1 := ⟨n - 1, by omega⟩
      obtain ⟨b, e1, e2⟩ := ih n (p + 1) (by omega) (by omega)
      rw [s_Likings_isAlike_2]
      unfold s_Likings_isAlike_2_b
      rw [hP, if_neg (nI_ge (by omega) (by omega)), ← nI_0]
      rcases inn (s_Likings_isAlike_2 (nI r1) (nI r2) n) p (by omega) S FUEL 0 (by omega) (by unfold FUEL; omega) with z | ⟨z1, z2⟩
      · exact ⟨0, z, fun y => absurd rfl y⟩
      · refine ⟨b, z1.trans e1, fun y p' s y1 y2 y3 => ?_⟩
        by_cases e : p' = p
        · subst e; exact z2 s (by omega) y3
        · exact e2 y p' s (by omega) y2 y3
  obtain ⟨b, e1, e2⟩ := out P FUEL 0 (by omega) (by unfold FUEL; omega)
  rw [nI_0] at e1
  exact ⟨b, e1, fun y p s hp hs => e2 y p s (by omega) hp hs⟩
def wRn (sc b j : Nat) : Prop := b = 34 ∨ b = 35 ∨ b = 37 ∨ b = sc
theorem wFl_rn (h : FR (wFl sc) σ σ') : FR (wRn sc) σ σ' := ⟨fun b j q => h.1 b j (by unfold wRn at q; unfold wFl; omega), h.2⟩
theorem RC.fr2 (h : RC σ S P F wn mn xn qn) (h1 : 195 ≤ sc) (hf : FR (wRn sc) σ σ') : RC σ' S P F wn mn xn qn := by
  have e : ∀ b, b = 4 ∨ b = 5 ∨ b = 6 ∨ b = 7 ∨ b = 9 → σ'.1 b = σ.1 b := fun b hb => funext fun j => hf.1 b j (by unfold wRn; omega)
  unfold RC at h ⊢
  rw [e 4 (by omega), e 5 (by omega), e 6 (by omega), e 7 (by omega), e 9 (by omega)]
  exact h
theorem HT.fr2 (h : HT σ hd sc held CLs) (hf : FR (wRn sc) σ σ') : HT σ' hd sc held CLs := by
  obtain ⟨h1, h2, h3⟩ := h
  refine ⟨h1, h2, ?_⟩
  rcases h3 with z | ⟨k, k1, k2, k3, k4, k5⟩
  · exact Or.inl z
  · have e : ∀ b, b = hd ∨ b = hd + 1 → σ'.1 b = σ.1 b := fun b hb => funext fun j => hf.1 b j (by unfold wRn; omega)
    refine Or.inr ⟨k, k1, k2, k3, k4, ?_⟩
    unfold TasteC at k5 ⊢
    rw [e hd (by omega), e (hd + 1) (by omega)]
    exact k5
/-- rows of the first minutes -/
def RR (σ : LH) (S P : Nat) (L : Nat → Nat → Nat → Int32) (m : Nat) : Prop := (∀ j, j < 100 → ∃ r, r < 100 ∧ σ.1 35 j = nI r) ∧ ∀ j, j < m → ∃ r, r ≤ j ∧ σ.1 35 j = nI r ∧ ∀ p s, p < P → s < S → tbC σ r p s = L j p s
/-- by this flag the taste tells the minute -/
def BM (held : Option Nat) (CLs : Nat → CL) (y : Int32) : Prop := y = 0 → ∀ h, held = some h → lco 4 ∉ encA 0 (CLs h)
theorem Lf_same {y : Int32} (hb : BM held CLs y) (hy : y = 0) {m p s : Nat} (hm : 0 < m) (hF : m ≠ F) : Lf F wn mn xn qn held CLs m p s = Lf F wn mn xn qn held CLs (m - 1) p s := by
  have hf : (if m < F then 0 else mn s) = (if m - 1 < F then 0 else mn s) := by
    by_cases q : m < F
    · rw [if_pos q, if_pos (by omega)]
    · rw [if_neg q, if_neg (by omega)]
  unfold Lf Lh
  rw [hf]
  cases held with
  | none => rfl
  | some h =>
    have hn := hb hy h rfl
    show cl9 (Wv (CLs h) _ _ _ _ m p) = cl9 (Wv (CLs h) _ _ _ _ (m - 1) p)
    unfold Wv
    rw [wOf_cg (l := lt6 (nI (wn s)) (nI (if m - 1 < F then 0 else mn s)) (nI (xn s)) (nI (qn p)) (nI m) (nI p)) (l' := lt6 (nI (wn s)) (nI (if m - 1 < F then 0 else mn s)) (nI (xn s)) (nI (qn p)) (nI (m - 1)) (nI p)) (fun i hi h4 => by
      rcases (show i = 0 ∨ i = 1 ∨ i = 2 ∨ i = 3 ∨ i = 5 by omega) with rfl | rfl | rfl | rfl | rfl <;> rfl) (CLs h) 0 hn]
theorem rn_set {m r : Nat} {L : Nat → Nat → Nat → Int32} {rec55 : Int32 → Int32 → Int32 → LH → Option LH} {y2 y3 : Int32} {s1 : LH} (hR : RR s1 S P L m) (hm : m < 100) (hr : r ≤ m) (hL : ∀ p s, p < P → s < S → tbC s1 r p s = L m p s) : s_Likings_renew_156 hd rec55 y2 y3 (nI m) (nI m) (nI r) s1 = rec55 y2 y3 (nI (m + 1)) (stI s1 35 m (nI r)) ∧ RR (stI s1 35 m (nI r)) S P L (m + 1) := by
  have et : ∀ r, tbC (stI s1 35 m (nI r)) = tbC s1 := fun r => by
    funext r' p s
    show (stI s1 35 m (nI r)).1 34 _ = s1.1 34 _
    rw [stI_n (by omega)]
  refine ⟨?_, fun j hj => ?_, fun j hj => ?_⟩
  · unfold s_Likings_renew_156
    rw [if_pos (ib_nI hm (by omega)), nI_clamp (by omega)]
    simp only [xl]
    rw [nI_1]
  · rw [stI_e]
    by_cases q : j = m
    · rw [if_pos q]; exact ⟨r, by omega, rfl⟩
    · rw [if_neg q]; exact hR.1 j hj
  · rw [stI_e]
    by_cases q : j = m
    · rw [if_pos q, q]
      refine ⟨r, by omega, rfl, fun p s hp hs => ?_⟩
      rw [et]
      exact hL p s hp hs
    · rw [if_neg q]
      obtain ⟨r', z1, z2, z3⟩ := hR.2 j (by omega)
      refine ⟨r', z1, z2, fun p s hp hs => ?_⟩
      rw [et]
      exact z3 p s hp hs
end
