/-! sitter: what the model says was thrown -/
section
variable {σ τ τ' : LH} {c : Nat} {x y r : Int32}
theorem sit_26 (h : s_Model_sitter_26 x y 0 τ = some (r, τ')) : τ' = stI τ 570 0 0 := by
  unfold s_Model_sitter_26 s_Model_sitter_86 at h
  rw [xl_so] at h
  split at h
  · split at h
    · split at h
      · split at h
        · injection h with h
          exact (congrArg Prod.snd h).symm
        · cases h
      · split at h
        · injection h with h
          exact (congrArg Prod.snd h).symm
        · cases h
    · split at h
      · injection h with h
        exact (congrArg Prod.snd h).symm
      · cases h
  · injection h with h
    exact (congrArg Prod.snd h).symm
/-- an answer: nothing thrown -/
theorem w_sitter2 {V : LH → LH → Prop} (hV : Vcl V) (h : NV V c σ τ) (x y : Int32) : (∃ r σ' τ', s_Main_sitter x y σ = some (r, σ') ∧ s_Model_sitter x y τ = some (r, τ') ∧ τ'.1 570 0 = 0 ∧ NV V c σ' τ') ∨ (s_Main_sitter x y σ = none ∧ s_Model_sitter x y τ = some (0, stI τ 570 0 1) ∧ NV V c σ (stI τ 570 0 1)) := by
  obtain ⟨S, P, F, E, n0, n, cnt, mm, M, k, N, wn, mn, xn, qn, sn, go, held, Bt, le, CLs, ln, h, hn⟩ := h
  have X := h.1
  rcases a_sitter MI.dep h.1 x y with ⟨q1, q2, q⟩ | ⟨q1, -, q2⟩
  · obtain ⟨r, σ', τ', r1, r2, r3⟩ := h.qr hV hn q
    refine Or.inl ⟨r, σ', τ', r1, r2, ?_, r3⟩
    have e : s_Model_sitter x y τ = s_Model_sitter_26 x y 0 τ := by
      unfold s_Model_sitter
      rw [m_isSitter, X.mP, xb2_so, if_pos q1, if_neg (show ¬ (1 : Int32) = 0 by decide), show s_Model_isIn (Int32.toInt64 y) 0 5 τ = some (if 0 ≤ y ∧ y ≤ 5 then 1 else 0, τ) from m_isIn (a := y) (b := 0) (c := 5), xb2_so, if_pos q2, if_neg (show ¬ (1 : Int32) = 0 by decide)]
    rw [e] at r2
    rw [sit_26 r2, stI_570, if_pos rfl]
  · refine Or.inr ⟨q1, q2, S, P, F, E, n0, n, cnt, mm, M, k, N, wn, mn, xn, qn, sn, go, held, Bt, le, CLs, ln, h.q hV FR.rf (FT.I (by unfold scM; omega)) ⟨X.fin.1, X.fin.2.1, ?_, ?_⟩ (MI.dep.I X.it (by omega)), hn⟩
    · rw [stI_570, if_neg (by omega)]; exact X.fin.2.2.1
    · rw [stI_570, if_neg (by omega)]; exact X.fin.2.2.2
end
