/-! calls, rests, fair, sitter between calls -/
section
variable {V : LH → LH → Prop} {σ τ : LH} {c : Nat}
theorem w_call (hV : Vcl V) (h : NV V c σ τ) (x y p : Int32) : AL V c (s_Main_call x y p σ) (s_Model_call x y p τ) := by
  obtain ⟨S, P, F, E, n0, n, cnt, mm, M, k, N, wn, mn, xn, qn, sn, go, held, Bt, le, CLs, ln, h, hn⟩ := h
  exact h.qr hV hn (a_call MI.dep h.lk h.1 x y p)
theorem w_rests (hV : Vcl V) (h : NV V c σ τ) (x i : Int32) : AL V c (s_Main_rests x i σ) (s_Model_rests x i τ) := by
  obtain ⟨S, P, F, E, n0, n, cnt, mm, M, k, N, wn, mn, xn, qn, sn, go, held, Bt, le, CLs, ln, h, hn⟩ := h
  exact h.qr hV hn (a_rests MI.dep h.lk h.1 x i)
theorem w_fair (hV : Vcl V) (h : NV V c σ τ) (x z : Int32) : AL V c (s_Main_fair x z σ) (s_Model_fair x z τ) := by
  obtain ⟨S, P, F, E, n0, n, cnt, mm, M, k, N, wn, mn, xn, qn, sn, go, held, Bt, le, CLs, ln, h, hn⟩ := h
  exact h.qr hV hn (a_fair MI.dep h.lk h.1 x z)
/-- sitter: alike, or nothing there in both -/
theorem w_sitter (hV : Vcl V) (h : NV V c σ τ) (x y : Int32) : AL V c (s_Main_sitter x y σ) (s_Model_sitter x y τ) ∨ (s_Main_sitter x y σ = none ∧ s_Model_sitter x y τ = some (0, stI τ 570 0 1)) := by
  obtain ⟨S, P, F, E, n0, n, cnt, mm, M, k, N, wn, mn, xn, qn, sn, go, held, Bt, le, CLs, ln, h, hn⟩ := h
  rcases a_sitter MI.dep h.1 x y with ⟨-, -, q⟩ | ⟨q1, -, q2⟩
  · exact Or.inl (h.qr hV hn q)
  · exact Or.inr ⟨q1, q2⟩
end
