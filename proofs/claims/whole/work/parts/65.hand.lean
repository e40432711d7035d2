/-! both: an act by hand -/
theorem GI.rem {I J : LH → Prop} {σ τ : LH} {S P n0 ne n E mm M k N : Nat} {go ex : Nat → Nat} {who : Option Nat} {L : Nat → Nat → Nat → Int32} {ln : Nat → Nat → Nat → Nat} {qn sn : Nat → Nat} (hIp : Ipast I J) (h : GI I J σ τ S P n0 ne n (E + 1) go ex who L ln qn sn mm M k N) (hmE : mm ≤ E) (hM : M ≤ 1000 * mm) : ∃ σ' τ', s_Main_remember σ = some σ' ∧ s_Model_remember τ = some τ' ∧ GI I J σ' τ' S P n0 ne n (E + 1) go ex who L ln qn sn mm M (min (k + 1) 40) ((N + 1) % 40) ∧ (∀ c, c < 9 → gH σ' 39 c = gH σ 39 c) ∧ τ'.1 583 = τ.1 583 := by
  obtain ⟨K, hH, hG, hP, hIt, hJt⟩ := h
  have hS8 : S ≤ 8 := K.1.2.1
  have hP8 : P ≤ 8 := K.1.2.2.2.1
  obtain ⟨σ1, τ1, r1, r2, P1, s1, s2, s3, t1, t2, t3⟩ := hP.remember hS8 hP8 ⟨mm, M, by omega, hM, hH, hG⟩
  have eg : ∀ c, c < 9 → gH σ1 39 c = gH σ 39 c := fun c hc => s1 (39 + c) (by omega) (by omega)
  have e83 : τ1.1 583 = τ.1 583 := t1 583 (by omega) (by omega)
  have we : WE (gH σ 39) (gH σ1 39) := ⟨fun c _ _ j _ => by rw [eg c (by omega)], by rw [eg 0 (by omega)], by rw [eg 0 (by omega)], by rw [eg 0 (by omega)]⟩
  have lo : ∀ b, b = 5 ∨ b = 7 ∨ b = 9 ∨ b = 10 ∨ b = 34 → σ1.1 b = σ.1 b := fun b hb => s1 b (by omega) (by omega)
  refine ⟨σ1, τ1, r1, r2, ⟨K.cg (fun b hb => s1 b (by omega) (by omega)) ⟨fun b hb => t1 b (by omega) (by omega), fun j hj => t2 j (by omega)⟩, ?_, ?_, P1, hIp.1 τ τ1 hIt t1 t2 t3, hIp.2.2 σ σ1 hJt s1 s2 s3⟩, eg, e83⟩
  · exact (hH.s lo).cp we hS8 hP8 (fun j _ => by rw [e83])
  · exact hG.cp we.2.2.1 (fun j _ => by rw [eg 8 (by omega)]) (fun j _ _ => by rw [e83])
theorem GI.set {I J : LH → Prop} {σ τ : LH} {S P n0 ne n eN mm M k N mm' M' : Nat} {go ex : Nat → Nat} {who : Option Nat} {L : Nat → Nat → Nat → Int32} {ln : Nat → Nat → Nat → Nat} {qn sn : Nat → Nat} {w' : Wd} {A' : Nat → Int32} (hI : Icl I) (hIp : Ipast I J) (h : GI I J σ τ S P n0 ne n eN go ex who L ln qn sn mm M k N) (hH : HR σ S P n mm' M' w' A') (hG : Lg w' A' M') : GI I J (sH σ 39 w') (stF τ 583 A') S P n0 ne n eN go ex who L ln qn sn mm' M' k N := by
  obtain ⟨K, -, -, ⟨p1, p2, p3, p4, p5, p6⟩, hIt, hJt⟩ := h
  have hS8 : S ≤ 8 := K.1.2.1
  have hP8 : P ≤ 8 := K.1.2.2.2.1
  have lo2 : ∀ b, b = 5 ∨ b = 7 ∨ b = 9 ∨ b = 10 ∨ b = 34 → (sH σ 39 w').1 b = σ.1 b := fun b hb => sH_lo (by omega)
  have eg2 : ∀ c, c < 9 → gH (sH σ 39 w') 39 c = w' c := gH_sH
  have we2 : WE w' (gH (sH σ 39 w') 39) := ⟨fun c _ _ j _ => by rw [eg2 c (by omega)], by rw [eg2 0 (by omega)], by rw [eg2 0 (by omega)], by rw [eg2 0 (by omega)]⟩
  refine ⟨K.cg (fun b hb => sH_lo (by omega)) ⟨fun b hb => stF_n (by omega), fun j _ => by rw [stF_n (by omega)]⟩, ?_, ?_, ⟨?_, ?_, ?_, p4, p5, fun i hi => ?_⟩, hI.1 τ 583 A' hIt (Or.inl rfl), hIp.2.1 σ w' hJt⟩
  · rw [stF_s]
    exact (hH.s lo2).cp we2 hS8 hP8 (fun _ _ => rfl)
  · rw [stF_s]
    exact hG.cp we2.2.2.1 (fun j _ => by rw [eg2 8 (by omega)]) (fun _ _ _ => rfl)
  · rw [sH_lo (by omega)]; exact p1
  · rw [sH_lo (by omega)]; exact p2
  · rw [stF_n (by omega)]; exact p3
  · have old := p6 i hi
    have e90 : (stF τ 583 A').1 590 = τ.1 590 := stF_n (by omega)
    generalize (N + 40 - i) % 40 = x at old ⊢
    have ex : ∀ c, c < 9 → gH (sH σ 39 w') (210 + 9 * x) c = gH σ (210 + 9 * x) c := fun c hc => sH_hi (by omega)
    exact old.cp hS8 hP8 lo2 ⟨fun c _ _ j _ => by rw [ex c (by omega)], by rw [ex 0 (by omega)], by rw [ex 0 (by omega)], by rw [ex 0 (by omega)]⟩ (fun j _ => by rw [ex 8 (by omega)]) (fun j hj => by rw [e90])
/-- getting up, in both -/
theorem GI.up {I J : LH → Prop} {σ τ : LH} {S P n0 ne n eN mm M k N p d : Nat} {go ex : Nat → Nat} {who : Option Nat} {L : Nat → Nat → Nat → Int32} {ln : Nat → Nat → Nat → Nat} {qn sn : Nat → Nat} (hI : Icl I) (hIp : Ipast I J) (h : GI I J σ τ S P n0 ne n eN go ex who L ln qn sn mm M k N) (hm : mm < 101) (hp : p < P) (hd : d < 100) {b : Int32} : s_Hall_getUp 39 (nI p) (nI d) b σ = some (sH σ 39 (wUp p (nI d) b (gH σ 39))) ∧ s_Model_goesUp 583 (nI p) (nI d) b τ = some (stF τ 583 (mUp p (nI d) b (τ.1 583))) ∧ GI I J (sH σ 39 (wUp p (nI d) b (gH σ 39))) (stF τ 583 (mUp p (nI d) b (τ.1 583))) S P n0 ne n eN go ex who L ln qn sn mm M k N := by
  have hS8 : S ≤ 8 := h.1.1.2.1
  have hP8 : P ≤ 8 := h.1.1.2.2.2.1
  obtain ⟨hR, hW, hO, h8⟩ := h.2.1
  obtain ⟨g1, g2, g3⟩ := h.2.2.1
  obtain ⟨kk, hk9, hk⟩ := hW.2.2.1 p hp
  have hx := hW.1.1 p hp
  refine ⟨?_, ?_, h.set hI hIp ⟨hR.up hS8 hP8 hp hx hk hk9, hW.up hR hS8 hP8 hm hp hd, hO.kst kst_up, (kst_up).2.2.trans h8⟩ ⟨(kst_up).2.2.trans g1, (mUp_hi (by omega) (plc8 hS8 hx) (by omega)).trans g2, fun i c hi hc => ?_⟩⟩
  · conv => lhs; rw [← sH_gH (σ := σ) (h := 39)]
    exact h_getUp (by omega)
  · conv => lhs; rw [← stF_id (τ := τ) (a := 583)]
    exact m_goesUp (by omega) (plc8 hS8 hx)
  · rw [(kst_up (p := p) (d := nI d) (b := b) (w := gH σ 39)).2.1, mUp_hi (by omega) (plc8 hS8 hx) (by omega)]
    exact g3 i c hi hc
