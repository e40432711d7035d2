/-! feed -/
section
variable {V : LH → LH → Prop} {σ τ σ' τ' σ0 : LH} {T c : Nat} {l : List Nat} {x a b d e p0 p1 p2 p3 p4 : Int32}
theorem t_add (h : TWc T l σ0 σ) (hT : T + l.length ≤ 240) : if T + l.length + (bl x 4).length ≤ 240 then ∃ σ', s_Tape_add x σ = some (1, σ') ∧ TWc T (l ++ bl x 4) σ0 σ' else ∃ σ' l', s_Tape_add x σ = some (0, σ') ∧ TWc T l' σ0 σ' := by
  have e : s_Tape_add x σ = s_Tape_add_3 x FUEL (nI (8 * 4) + -8) σ := rfl
  by_cases q : T + l.length + (bl x 4).length ≤ 240
  · rw [if_pos q, e]
    obtain ⟨σ', a1, a2⟩ := ta_ok (x := x) 4 FUEL (T + l.length) σ (by omega) (by unfold FUEL; omega) q h.2.2.1
    exact ⟨σ', a1, h.app a2⟩
  · rw [if_neg q, e]
    obtain ⟨σ', l', a1, a2⟩ := ta_no (x := x) 4 FUEL (T + l.length) σ (by omega) (by unfold FUEL; omega) hT (by omega) h.2.2.1
    exact ⟨σ', _, a1, h.app a2⟩
/-- a word more, or no -/
theorem f_stp {K : LH → Option (Int32 × LH)} {R : Prop} {f : Option (Int32 × LH)} (h : TWc T l σ0 σ) (hT : T + l.length ≤ 240) (hf : f = xb2 (s_Tape_add x σ) (fun r s => if r = 0 then s_Main_feed_70 p0 p1 p2 p3 p4 (nI T) s else K s))
    (h1 : ∀ s, T + l.length + (bl x 4).length ≤ 240 → TWc T (l ++ bl x 4) σ0 s → f = K s → R) (h2 : ∀ s l', ¬ T + l.length + (bl x 4).length ≤ 240 → TWc T l' σ0 s → f = some (-1, stI s 2 1 (nI T)) → R) : R := by
  have t := t_add (x := x) h hT
  by_cases q : T + l.length + (bl x 4).length ≤ 240
  · rw [if_pos q] at t
    obtain ⟨s, t1, t2⟩ := t
    refine h1 s q t2 ?_
    rw [hf, t1]
    simp only [xb2]
    rw [if_neg (show ¬ (1 : Int32) = 0 by decide)]
  · rw [if_neg q] at t
    obtain ⟨s, l', t1, t2⟩ := t
    refine h2 s l' q t2 ?_
    rw [hf, t1]
    simp only [xb2]
    rw [if_pos trivial]
    unfold s_Main_feed_70 s_Main_feed_71
    rw [if_pos rfl]
    rfl
def fL (a b c d e : Int32) : List Nat := bl a 4 ++ bl b 4 ++ bl c 4 ++ bl d 4 ++ bl e 4
theorem fL_b {a b c d e : Int32} : ∀ k ∈ fL a b c d e, 1 ≤ k ∧ k < 256 := by
  intro k hk
  unfold fL at hk
  simp only [List.mem_append] at hk
  rcases hk with (((hk | hk) | hk) | hk) | hk <;> exact bl_b _ _ k hk
theorem fL_n {a b c d e : Int32} : (fL a b c d e).length = (bl a 4).length + (bl b 4).length + (bl c 4).length + (bl d 4).length + (bl e 4).length := by
  unfold fL
  simp only [List.length_append]
theorem fC {a b c d e : Int32} (h : σ.1 2 1 = nI T) (hT : T ≤ 240) : if T + (fL a b c d e).length ≤ 240 then ∃ σ', s_Main_feed a b c d e σ = some (nI (T + (fL a b c d e).length), σ') ∧ TWc T (fL a b c d e) σ σ' else ∃ σ' l', s_Main_feed a b c d e σ = some (-1, stI σ' 2 1 (nI T)) ∧ TWc T l' σ σ' := by
  obtain ⟨f, hf⟩ : ∃ f, f = s_Main_feed a b c d e σ := ⟨_, rfl⟩
  rw [← hf]
  unfold s_Main_feed at hf
  simp only [xl] at hf
  rw [h] at hf
  have no : ∀ s l', ¬ T + (fL a b c d e).length ≤ 240 → TWc T l' σ s → f = some (-1, stI s 2 1 (nI T)) → if T + (fL a b c d e).length ≤ 240 then ∃ σ', f = some (nI (T + (fL a b c d e).length), σ') ∧ TWc T (fL a b c d e) σ σ' else ∃ σ' l', f = some (-1, stI σ' 2 1 (nI T)) ∧ TWc T l' σ σ' := fun s l' q t e => by
    rw [if_neg q]
    exact ⟨s, l', e, t⟩
  have ln := fL_n (a := a) (b := b) (c := c) (d := d) (e := e)
  have L0 : ([] : List Nat).length = 0 := rfl
  refine f_stp (TWc.nil h) (by rw [L0]; omega) hf (fun s1 q1 t1 hf => ?_) (fun s l' q t e => no s l' (by rw [L0] at q; omega) t e)
  rw [List.nil_append] at t1
  rw [L0] at q1
  refine f_stp t1 (by omega) hf (fun s2 q2 t2 hf => ?_) (fun s l' q t e => no s l' (by omega) t e)
  refine f_stp t2 (by rw [List.length_append]; omega) hf (fun s3 q3 t3 hf => ?_) (fun s l' q t e => no s l' (by rw [List.length_append] at q; omega) t e)
  rw [List.length_append] at q3
  refine f_stp t3 (by rw [List.length_append, List.length_append]; omega) hf (fun s4 q4 t4 hf => ?_) (fun s l' q t e => no s l' (by rw [List.length_append, List.length_append] at q; omega) t e)
  rw [List.length_append, List.length_append] at q4
  refine f_stp t4 (by rw [List.length_append, List.length_append, List.length_append]; omega) hf (fun s5 q5 t5 hf => ?_) (fun s l' q t e => no s l' (by rw [List.length_append, List.length_append, List.length_append] at q; omega) t e)
  rw [List.length_append, List.length_append, List.length_append] at q5
  rw [if_pos (by omega)]
  refine ⟨s5, ?_, t5⟩
  rw [hf]
  unfold s_Main_feed_71
  rw [if_neg (show ¬ (1 : Int32) = 0 by decide), t5.2.2.1]
  rfl
theorem m_bI {x : Int32} : s_Model_bytesIn x τ = some (nI (bl x 4).length, τ) := by
  have e : s_Model_bytesIn x τ = s_Model_bytesIn_5 x FUEL (nI 0) (nI (8 * 4) + -8) τ := rfl
  rw [e, mb_in 4 FUEL 0 τ (by omega) (by unfold FUEL; omega), Nat.zero_add]
theorem m_pt {x : Int32} {τ0 : LH} (h : TWm T l τ0 τ) (hT : T + l.length + (bl x 4).length ≤ 240) : ∃ τ', s_Model_put x τ = some τ' ∧ TWm T (l ++ bl x 4) τ0 τ' := by
  have e : s_Model_put x τ = s_Model_put_3 x FUEL (nI (8 * 4) + -8) τ := rfl
  obtain ⟨τ', a1, a2⟩ := mp_ok (x := x) 4 FUEL (T + l.length) τ (by omega) (by unfold FUEL; omega) hT h.2.2.1
  exact ⟨τ', e.trans a1, h.app a2⟩
theorem fM {a b c d e : Int32} (h : (stI τ 570 0 0).1 570 6 = nI T) (hT : T ≤ 240) : if T + (fL a b c d e).length ≤ 240 then ∃ τ', s_Model_feed a b c d e τ = some (nI (T + (fL a b c d e).length), τ') ∧ TWm T (fL a b c d e) (stI τ 570 0 0) τ' else s_Model_feed a b c d e τ = some (-1, stI τ 570 0 0) := by
  have ln := fL_n (a := a) (b := b) (c := c) (d := d) (e := e)
  have b1 := bl_len a 4
  have b2 := bl_len b 4
  have b3 := bl_len c 4
  have b4 := bl_len d 4
  have b5 := bl_len e 4
  unfold s_Model_feed
  simp only [xl]
  rw [m_bI]
  simp only [xb2]
  rw [m_bI]
  simp only
  rw [m_bI]
  simp only
  rw [m_bI]
  simp only
  rw [m_bI]
  simp only
  rw [h, nI_add, nI_add, nI_add, nI_add, nI_add]
  by_cases q : T + (fL a b c d e).length ≤ 240
  · rw [if_pos q, if_pos (show nI (T + (bl a 4).length + (bl b 4).length + (bl c 4).length + (bl d 4).length + (bl e 4).length) ≤ 240 from nI_le (b := 240) (by omega) (by omega))]
    obtain ⟨τ1, r1, t1⟩ := m_pt (x := a) (TWm.nil h) (by show T + 0 + _ ≤ 240; omega)
    rw [List.nil_append] at t1
    obtain ⟨τ2, r2, t2⟩ := m_pt (x := b) t1 (by omega)
    obtain ⟨τ3, r3, t3⟩ := m_pt (x := c) t2 (by rw [List.length_append]; omega)
    obtain ⟨τ4, r4, t4⟩ := m_pt (x := d) t3 (by rw [List.length_append, List.length_append]; omega)
    obtain ⟨τ5, r5, t5⟩ := m_pt (x := e) t4 (by rw [List.length_append, List.length_append, List.length_append]; omega)
    rw [r1]
    simp only [xb1]
    rw [r2]
    simp only
    rw [r3]
    simp only
    rw [r4]
    simp only
    rw [r5]
    simp only
    exact ⟨τ5, by rw [t5.2.2.1]; rfl, t5⟩
  · rw [if_neg q, if_neg (show ¬ nI (T + (bl a 4).length + (bl b 4).length + (bl c 4).length + (bl d 4).length + (bl e 4).length) ≤ 240 from nI_ge (b := T + (bl a 4).length + (bl b 4).length + (bl c 4).length + (bl d 4).length + (bl e 4).length) (a := 240) (by omega) (by omega))]
theorem w_feed (hV : Vcl V) (h : NV V c σ τ) (v0 v1 v2 v3 v4 : Int32) : AL V c (s_Main_feed v0 v1 v2 v3 v4 σ) (s_Model_feed v0 v1 v2 v3 v4 τ) := by
  obtain ⟨S, P, F, E, n0, n, cnt, mm, M, k, N, wn, mn, xn, qn, sn, go, held, Bt, le, CLs, ln, h, hn⟩ := h
  obtain ⟨T, t1, t2, t3, t4⟩ := h.2.2.2.2.2.2.2.1
  have e6 : (stI τ 570 0 0).1 570 6 = nI T := by rw [stI_570, if_neg (show ¬ 6 = 0 by omega)]; exact t2
  have fc := fC (a := v0) (b := v1) (c := v2) (d := v3) (e := v4) t1 t3
  have fm := fM (a := v0) (b := v1) (c := v2) (d := v3) (e := v4) e6 t3
  have lb := fL_b (a := v0) (b := v1) (c := v2) (d := v3) (e := v4)
  generalize fL v0 v1 v2 v3 v4 = l at *
  by_cases q : T + l.length ≤ 240
  · rw [if_pos q] at fc fm
    obtain ⟨σ', r1, a1, a2, a3, a4, a5, a6⟩ := fc
    obtain ⟨τ', r2, b1, b2, b3, b4, b5, b6⟩ := fm
    refine h.m (σ' := σ') (τ' := τ') hn ⟨fun b j z => ?_, a6⟩ ⟨fun b j z => ?_, fun b _ => by rw [b6]; rfl, by rw [b6]; rfl⟩ (by rw [b6]; rfl) (h.2.2.2.tp hV (fun b z1 z2 => a1 b z1 z2) (fun b z1 z2 => by rw [b1 b z1 z2, stI_n z1]) (fun j z1 z2 => by rw [b2 j z2, stI_570, if_neg z1]) ⟨T + l.length, a3, b3, q, fun i hi => ?_⟩) r1 r2
    · rw [a1 b (fun y => z (by unfold mvC; omega)) (fun y => z (by unfold mvC; omega))]
    · by_cases y : b = 570
      · subst y
        rw [b2 j (fun y => z (by unfold mvM; omega)), stI_570, if_neg (fun y => z (by unfold mvM; omega))]
      · rw [b1 b y (fun y => z (by unfold mvM; omega)), stI_n y]
    · by_cases z : i < T
      · rw [a4 i z, b4 i z, stI_n (by omega)]
        exact t4 i z
      · have y1 := a5 (i - T) (by omega)
        have y2 := b5 (i - T) (by omega)
        rw [show T + (i - T) = i by omega] at y1 y2
        have mem : l.getD (i - T) 0 ∈ l := by
          rw [List.getD_eq_getElem?_getD, List.getElem?_eq_getElem (by omega)]
          exact List.getElem_mem _
        obtain ⟨z1, z2⟩ := lb _ mem
        exact ⟨_, z1, z2, y1, y2⟩
  · rw [if_neg q] at fc fm
    obtain ⟨σ1, l', r1, a1, a2, a3, a4, a5, a6⟩ := fc
    have ec : ∀ b, b ≠ 2 → b ≠ 3 → (stI σ1 2 1 (nI T)).1 b = σ.1 b := fun b z1 z2 => by rw [stI_n z1, a1 b z1 z2]
    have em : ∀ b, b ≠ 570 → (stI τ 570 0 0).1 b = τ.1 b := fun b z1 => stI_n z1
    refine h.m (σ' := stI σ1 2 1 (nI T)) (τ' := stI τ 570 0 0) hn ⟨fun b j z => ?_, a6⟩ (FT.I (by unfold mvM; omega)) rfl (h.2.2.2.tp hV ec (fun b z1 _ => em b z1) (fun j z1 _ => by rw [stI_570, if_neg z1]) ⟨T, by rw [stI_e, if_pos rfl], e6, t3, fun i hi => ?_⟩) r1 fm
    · rw [ec b (fun y => z (by unfold mvC; omega)) (fun y => z (by unfold mvC; omega))]
    · rw [stI_n (by omega), a4 i hi, stI_n (by omega)]
      exact t4 i hi
end
