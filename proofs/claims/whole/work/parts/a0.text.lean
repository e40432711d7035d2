/-! text: both -/
section
variable {V : LH → LH → Prop} {σ τ σ' τ' : LH} {S P F E n0 n cnt mm M k N c T : Nat} {wn mn xn qn sn go : Nat → Nat} {held : Option Nat} {Bt : Nat → Nat → Nat} {le : Nat → Nat} {CLs : Nat → CL} {ln : Nat → Nat → Nat → Nat} {R : RM} {w : Wd} {B : Nat → Nat} {cl : CL}
theorem z_z : stI (stI τ 570 0 0) 570 0 0 = stI τ 570 0 0 := stI_ov
theorem xb2_sg {α β : Type} {r : α} {s : LH} {f : α → LH → Option β} : xb2 (some (r, s)) f = f r s := rfl
theorem xl_so {α β : Type} {a : α} {f : α → β} : xl a f = f a := rfl
theorem xb1_so {β : Type} {s : LH} {f : LH → Option β} : xb1 (some s) f = f s := rfl
theorem m_fl0 {z τ1 : LH} (h : s_Model_readRoom (stI z 570 0 0) = some τ1) : s_Model_fault 0 z = some (τ1.1 570 11, τ1) := by
  unfold s_Model_fault s_Model_fault_42
  rw [xl_so, show s_Model_isIn (Int32.toInt64 0) 0 1 (stI z 570 0 0) = _ from m_isIn (a := 0) (b := 0) (c := 1), if_pos (show (0 : Int32) ≤ 0 ∧ (0 : Int32) ≤ 1 by decide), xb2_so, if_neg (show ¬ (1 : Int32) = 0 by decide), if_pos rfl, h, xb1_so]
theorem m_fl1 {z τ1 : LH} {T : Nat} (h6 : (stI z 570 0 0).1 570 6 = nI T) (h : s_Model_goThrough 571 0 (nI T) (stI z 570 0 0) = some τ1) : s_Model_fault 1 z = some (τ1.1 570 11, τ1) := by
  unfold s_Model_fault s_Model_fault_42
  rw [xl_so, show s_Model_isIn (Int32.toInt64 1) 0 1 (stI z 570 0 0) = _ from m_isIn (a := 1) (b := 0) (c := 1), if_pos (show (0 : Int32) ≤ 1 ∧ (1 : Int32) ≤ 1 by decide), xb2_so, if_neg (show ¬ (1 : Int32) = 0 by decide), if_neg (show ¬ (1 : Int32) = 0 by decide), h6, h, xb1_so]
theorem m_28n {z τ1 : LH} {x : Int32} (h : s_Model_fault x z = some (τ1.1 570 11, τ1)) (hf : ¬ τ1.1 570 11 = -1) : s_Model_text_28 x z = some (-1, τ1) := by
  unfold s_Model_text_28 s_Model_text_37
  rw [h, xb2_so, if_neg hf]
theorem m_280 {z τ1 : LH} (h : s_Model_fault 0 z = some (τ1.1 570 11, τ1)) (hf : τ1.1 570 11 = -1) : s_Model_text_28 0 z = s_Model_text_141 0 FUEL 0 (stI (stI (stI (stI τ1 570 6 0) 570 26 (τ1.1 570 29)) 570 27 (τ1.1 570 30)) 570 28 (τ1.1 570 31)) := by
  have e1 : (stI τ1 570 6 0).1 570 29 = τ1.1 570 29 := by rw [stI_570, if_neg (by omega)]
  have e2 : ∀ v, (stI (stI τ1 570 6 0) 570 26 v).1 570 30 = τ1.1 570 30 := fun v => by rw [stI_570, if_neg (by omega), stI_570, if_neg (by omega)]
  have e3 : ∀ v v', (stI (stI (stI τ1 570 6 0) 570 26 v) 570 27 v').1 570 31 = τ1.1 570 31 := fun v v' => by rw [stI_570, if_neg (by omega), stI_570, if_neg (by omega), stI_570, if_neg (by omega)]
  unfold s_Model_text_28
  rw [h, xb2_so, if_pos hf, xl_so, xl_so, if_neg (show ¬ (0 : Int32) = 1 by decide), xl_so, xl_so, xl_so, e1, e2, e3]
theorem m_281 {z τ1 : LH} (h : s_Model_fault 1 z = some (τ1.1 570 11, τ1)) (hf : τ1.1 570 11 = -1) : s_Model_text_28 1 z = s_Model_text_56 1 FUEL (τ1.1 570 6) 0 (stI τ1 570 6 0) := by
  unfold s_Model_text_28
  rw [h, xb2_so, if_pos hf, xl_so, xl_so, if_pos rfl]
theorem c_tx0 {r : Int32} {σ1 : LH} (h : s_RoomReader_read 15 σ = some (r, σ1)) : s_Main_text 0 σ = if r = -1 then xb2 (s_Main_takeRoom σ1) (fun r7 σ8 => some (r7, σ8)) else some (-1, σ1) := by
  unfold s_Main_text s_Main_text_24 s_Main_text_77
  rw [if_pos rfl, h, xb2_so]
  by_cases q : r = -1
  · rw [if_pos q, if_pos q]
  · rw [if_neg q, if_neg q, if_neg (show ¬ (0 : Int32) = 1 by decide)]
theorem w_text0 (hV : Vcl V) (hr : Vren V) (hc : c + 1 < 2 ^ 20) (h : NVp V σ τ S P F E n0 n cnt mm M k N wn mn xn qn sn go held Bt le CLs ln) (hn : n ≤ c) : AL V (c + 1) (s_Main_text 0 σ) (s_Model_text_28 0 (stI τ 570 0 0)) := by
  obtain ⟨T, B, t1, t2, t3, tc, tm⟩ := TPE.B h.2.2.2.2.2.2.2.1
  have z6 : (stI τ 570 0 0).1 570 6 = nI T := by rw [stI_570, if_neg (by omega)]; exact t2
  have zm : ∀ i, i < T → (stI τ 570 0 0).1 571 i = sx (B i) ∧ 1 ≤ B i ∧ B i < 256 := fun i hi => by rw [stI_n (by omega)]; exact tm i hi
  have a := r_read (rm := 15) tc (by omega) (by omega)
  have b := m_readRoom z6 t3 zm
  cases hp : pRoom B T (T + 1) 0 rmZ with
  | inl f =>
    rw [hp] at a b
    obtain ⟨σ', a1, a2⟩ := a
    obtain ⟨bf, τ', b1, b2, b3, b4⟩ := b
    have hf : ¬ nI f = -1 := nI_m1 (by omega)
    have fl := m_fl0 (z := stI τ 570 0 0) (by rw [z_z]; exact b1)
    rw [c_tx0 a1, if_neg hf, m_28n fl (by rw [b2]; exact hf)]
    exact ⟨_, _, _, rfl, rfl, S, P, F, E, n0, n, cnt, mm, M, k, N, wn, mn, xn, qn, sn, go, held, Bt, le, CLs, ln, h.rr hV a2 b3 (by rw [b4]; rfl), by omega⟩
  | inr R =>
    rw [hp] at a b
    obtain ⟨σ1, a1, a2, -⟩ := a
    obtain ⟨τ1, b1, b2, b3, b4, b5, b6, b7⟩ := b
    have fl := m_fl0 (z := stI τ 570 0 0) (by rw [z_z]; exact b1)
    obtain ⟨σ', w, c0, c1, c2, c3, c4, c5, c6, c7, c8, c9, c10, c11, c12, c13, c14, c15⟩ := c_take h a2 tc b6 b7 hp (by omega)
    obtain ⟨τ', d0, d1, d2, d3, d4, d5, d6, d7, d8, d9, d10, d11, d12, d13, d14, d15⟩ := m_take (p0 := 0) b5 b6 b7
    rw [c_tx0 a1, if_pos rfl, c0, xb2_so, m_280 fl b2, d0]
    have old : ∀ j, j = 7 ∨ j = 35 ∨ j = 36 ∨ j = 39 ∨ j = 40 → τ'.1 570 j = τ.1 570 j := fun j hj => by
      rw [d1 j (by omega), b3.1 570 j (by unfold wRr wRd; omega), stI_570, if_neg (by omega)]
    have oldb : ∀ b, b = 572 ∨ b = 573 ∨ b = 586 → τ'.1 b = τ.1 b := fun b hb => by
      rw [d14 b (by omega) (by omega) (by omega) (by omega) (by omega) (by omega)]
      funext j
      rw [b3.1 b j (by unfold wRr wRd; omega), stI_n (by omega)]
    obtain ⟨ln', x⟩ := h.new hr (by omega) b6 b7 c1 c2 c3 c4 c5 c6 c7 c8 c9 c10 c11 c12 c13 c14 c15 old d2 d3 d4 d5 d6 d7 d8 d9 d10 d11 d12 d13 oldb (by rw [d15, b4]; rfl)
    exact ⟨_, _, _, rfl, rfl, _, _, _, _, _, n + 1, cnt, 0, 0, 0, N, _, _, _, _, _, _, held, Bt, le, CLs, ln', x, by omega⟩
theorem c_tx1n (h : σ.1 1 6 = nI 4) : s_Main_text 1 σ = some (-1, σ) := by
  unfold s_Main_text s_Main_text_24 s_Main_text_77
  rw [if_neg (show ¬ (1 : Int32) = 0 by decide), if_pos rfl, h, if_pos (show (4 : Int32) ≤ nI 4 by decide)]
theorem c_tx1 (h : σ.1 1 6 = nI cnt) (hc : cnt < 4) {r : Int32} {σ1 : LH} (hr : s_TasteReader_read (195 + 3 * cnt) σ = some (r, σ1)) : s_Main_text 1 σ = if r = -1 then some ((stI (stI σ1 2 1 0) 1 6 ((stI σ1 2 1 0).1 1 6 + 1)).1 1 6 - 1, stI (stI σ1 2 1 0) 1 6 ((stI σ1 2 1 0).1 1 6 + 1)) else some (-1, σ1) := by
  unfold s_Main_text s_Main_text_24 s_Main_text_77
  rw [if_neg (show ¬ (1 : Int32) = 0 by decide), if_pos rfl, h, if_neg (show ¬ (4 : Int32) ≤ nI cnt from nI_ge (b := 4) hc (by omega)), c_next h (by omega), xb2_sg, hr, xb2_so]
  by_cases q : r = -1
  · rw [if_pos q, if_pos q, xl_so, xl_so]
  · rw [if_neg q, if_neg q]
theorem w_text1 (hV : Vcl V) (h : NVp V σ τ S P F E n0 n cnt mm M k N wn mn xn qn sn go held Bt le CLs ln) (hn : n ≤ c) : AL V c (s_Main_text 1 σ) (if nI cnt = 4 then some (-1, stI τ 570 0 0) else s_Model_text_28 1 (stI τ 570 0 0)) := by
  obtain ⟨T, B, t1, t2, t3, tc, tm⟩ := TPE.B h.2.2.2.2.2.2.2.1
  have z6 : (stI τ 570 0 0).1 570 6 = nI T := by rw [stI_570, if_neg (by omega)]; exact t2
  have o6 := h.2.2.2.2.2.2.2.2.1
  have hc4 : cnt ≤ 4 := h.2.2.2.1.2.2.2.1
  have v6 : σ.1 1 6 = nI cnt := o6.1
  by_cases q4 : cnt = 4
  · rw [if_pos (show nI cnt = 4 by rw [q4]; rfl), c_tx1n (by rw [v6, q4])]
    exact h.no hV hn (-1) rfl rfl
  · have hc : cnt < 4 := by omega
    rw [if_neg (show ¬ nI cnt = 4 from fun z => q4 (nI_ij (b := 4) (by omega) (by omega) z))]
    have a := h.rdT hV t1 t3 tc tm
    cases hp : pAll B T (T + 1) 0 [] with
    | inl f =>
      rw [hp] at a
      obtain ⟨σ', τ', a1, a2, a3, a4, a5⟩ := a
      have hf : ¬ nI f = -1 := nI_m1 a4
      have fl := m_fl1 (z := stI τ 570 0 0) (T := T) (by rw [z_z]; exact z6) (by rw [z_z]; exact a2)
      rw [c_tx1 v6 hc a1, if_neg hf, m_28n fl (by rw [a3]; exact hf)]
      exact ⟨_, _, _, rfl, rfl, S, P, F, E, n0, n, cnt, mm, M, k, N, wn, mn, xn, qn, sn, go, held, Bt, le, CLs, ln, a5, hn⟩
    | inr cl =>
      rw [hp] at a
      obtain ⟨σ1, τ1, a1, a2, a3, a5, a6, a7, a8, a9⟩ := a
      obtain ⟨⟨s1, s2, s3⟩, s4, s5⟩ := a7
      have b6 : τ1.1 570 6 = nI T := by rw [s1 570 6 (by unfold nsc; omega)]; exact z6
      have b7 : τ1.1 570 7 = nI cnt := by rw [s1 570 7 (by unfold nsc; omega), stI_570, if_neg (by omega)]; exact o6.2.1
      have c6 : σ1.1 1 6 = nI cnt := a5.2.2.2.2.2.2.2.2.1.1
      have fl := m_fl1 (z := stI τ 570 0 0) (T := T) (by rw [z_z]; exact z6) (by rw [z_z]; exact a2)
      rw [c_tx1 v6 hc a1, if_pos rfl, m_281 fl a3, b6, stI_n (a := 2) (b := 1) (by omega), c6, nI_1, stI_e (i := 6), if_pos rfl, nI_pred]
      obtain ⟨G, g1, g2, g3⟩ := cp56 (p0 := 1) hc t3 (fun i hi => (tm i hi).2.2) T FUEL 0 (stI τ1 570 6 0) (by omega) (by unfold FUEL; omega) (fun i hi => by rw [stI_n (by omega), s4 571 (by omega), stI_n (by omega)]; exact (tm i hi).1) (by rw [stI_570, if_neg (by omega)]; exact b7)
      rw [nI_0] at g3
      rw [g3]
      refine ⟨_, _, _, rfl, rfl, S, P, F, E, n0, n, cnt + 1, mm, M, k, N, wn, mn, xn, qn, sn, go, held, _, _, _, ln, a5.addT (T := T) (B := B) (cl := cl) (σ' := stI (stI σ1 2 1 0) 1 6 (nI (cnt + 1))) (τ' := stI (stI (stF (stI τ1 570 6 0) 572 G) 573 cnt (nI T)) 570 7 (nI (cnt + 1))) hV hc t3 (fun i hi => (tm i hi).2) hp a6 (fun b h1 h2 => by rw [stI_n h1, stI_n h2]) (fun j h1 => by rw [stI_e, if_neg h1, stI_n (by omega)]) (by rw [stI_e, if_pos rfl]) (by rw [stI_n (by omega), stI_e, if_pos rfl]) (fun b h1 h2 h3 => by rw [stI_n h1, stI_n h3, stF_n h2, stI_n h1]) (fun j h1 h2 => by rw [stI_570, if_neg h2, stI_n (by omega), stF_n (by omega), stI_570, if_neg h1]) (by rw [stI_570, if_neg (by omega), stI_n (by omega), stF_n (by omega), stI_570, if_pos rfl]) (by rw [stI_570, if_pos rfl]) (fun j hj => by rw [stI_n (by omega), stI_n (by omega), stF_s, g1 j (by omega), stI_n (by omega)]) (fun i hi => by rw [stI_n (by omega), stI_n (by omega), stF_s]; exact g2 i (by omega) hi) (fun t => by rw [stI_n (by omega), stI_e, stF_n (by omega), stI_n (by omega)]) rfl, hn⟩
theorem m_txt {x : Int32} (h7 : (stI τ 570 0 0).1 570 7 = nI cnt) : s_Model_text x τ = if 0 ≤ x ∧ x ≤ 1 then (if x = 1 then (if nI cnt = 4 then some (-1, stI τ 570 0 0) else s_Model_text_28 x (stI τ 570 0 0)) else s_Model_text_28 x (stI τ 570 0 0)) else some (-1, stI τ 570 0 0) := by
  unfold s_Model_text s_Model_text_37
  rw [xl_so, show s_Model_isIn (Int32.toInt64 x) 0 1 (stI τ 570 0 0) = _ from m_isIn (a := x) (b := 0) (c := 1), xb2_so, ite10, h7]
theorem w_text (hV : Vcl V) (hr : Vren V) (hc : c + 1 < 2 ^ 20) (h : NV V c σ τ) (x : Int32) : AL V (c + 1) (s_Main_text x σ) (s_Model_text x τ) := by
  obtain ⟨S, P, F, E, n0, n, cnt, mm, M, k, N, wn, mn, xn, qn, sn, go, held, Bt, le, CLs, ln, h, hn⟩ := h
  have o6 := h.2.2.2.2.2.2.2.2.1
  have z7 : (stI τ 570 0 0).1 570 7 = nI cnt := by rw [stI_570, if_neg (by omega)]; exact o6.2.1
  rw [m_txt z7]
  by_cases q0 : x = 0
  · subst q0
    rw [if_pos (by decide), if_neg (by decide)]
    exact w_text0 hV hr hc h hn
  · by_cases q1 : x = 1
    · subst q1
      rw [if_pos (by decide), if_pos rfl]
      exact (w_text1 hV h hn).mono (by omega)
    · have nx : ¬ (0 ≤ x ∧ x ≤ 1) := fun z => by
        obtain ⟨v, rfl, v1, v2⟩ := nI_btw (a := 0) (b := 1) (by omega) (by omega) z.1 z.2
        rcases (show v = 0 ∨ v = 1 by omega) with rfl | rfl
        · exact q0 rfl
        · exact q1 rfl
      rw [if_neg nx]
      unfold s_Main_text s_Main_text_24 s_Main_text_77
      rw [if_neg q0, if_neg q1]
      exact (h.no hV hn (-1) rfl rfl).mono (by omega)
end
