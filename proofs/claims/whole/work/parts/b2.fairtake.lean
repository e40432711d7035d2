/-! fair: the least, taken in both; the orders one by one -/
theorem and_one01 (x : Int32) : x &&& 1 = 0 ∨ x &&& 1 = 1 := by
  have h : (x.toBitVec &&& 1#32) = 0#32 ∨ (x.toBitVec &&& 1#32) = 1#32 := by
    have e : (x.toBitVec &&& 1#32).toNat = x.toBitVec.toNat % 2 := by
      rw [BitVec.toNat_and]
      exact Nat.and_one_is_mod _
    rcases Nat.mod_two_eq_zero_or_one x.toBitVec.toNat with q | q
    · exact Or.inl (BitVec.eq_of_toNat_eq (by rw [e, q]; rfl))
    · exact Or.inr (BitVec.eq_of_toNat_eq (by rw [e, q]; rfl))
  rcases h with h | h
  · exact Or.inl (Int32.toBitVec_inj.mp h)
  · exact Or.inr (Int32.toBitVec_inj.mp h)
theorem bit_has {x : Int32} {t : Nat} : (if (if ((x >>> (nI t &&& 31)) &&& 1) = 1 then (1 : Int32) else 0) = 0 then True else False) = (((x >>> (nI t &&& 31)) &&& 1) = 0) := by
  rcases and_one01 (x >>> (nI t &&& 31)) with h | h
  · rw [h, if_neg (show ¬ (0 : Int32) = 1 by decide), if_pos rfl]
    exact propext ⟨fun _ => rfl, fun _ => trivial⟩
  · rw [h, if_pos rfl, if_neg (show ¬ (1 : Int32) = 0 by decide)]
    exact propext ⟨fun z => z.elim, fun z => absurd z (by decide)⟩
section
variable {I : LH → Prop} {σ τ σ' τ' σ0 τ0 : LH} {S P n0 n E mm M d k : Nat} {go ord ord' : Nat → Nat} {L : Nat → Nat → Nat → Int32} {ln : Nat → Nat → Nat → Nat} {qn sn : Nat → Nat}
theorem FBo.t {A B : Prop} (h : FBo A σ τ) (ha : A) (hb : B) : FBo B σ τ := ⟨h.1, Or.inl hb, fun _ => h.2.2 ha⟩
theorem FBo.iff {A B : Prop} (h : FBo A σ τ) (hi : A ↔ B) : FBo B σ τ := ⟨h.1, h.2.1.imp hi.mp id, fun b => h.2.2 (hi.mpr b)⟩
theorem FBo.s {A : Prop} (h : FBo A σ τ) (h1 : σ'.1 81 = σ.1 81) (h2 : τ'.1 570 = τ.1 570) : FBo A σ' τ' := by
  unfold FBo
  rw [h1, h2]
  exact h
theorem f_take (hD : Idep I) (hL : LKok I P S L) (X0 : QX I σ0 τ0 S P n0 n E go L ln qn sn mm M) (X : QX I σ τ S P n0 n E go L ln qn sn mm M) (fσ : FR scC σ0 σ) (fτ : FT scM τ0 τ) (hP0 : 0 < P) (hP5 : P ≤ 5) (hPE : mm + P ≤ E) (hP : PIx L σ0 τ0 S P n n0 mm M d go ord P (gH σ (96 + 9 * P))) (ho : ∀ j, j < P → τ.1 594 j = nI (ord j)) (hop : ∀ j, j < P → ord j < P) {V : Prop} (hV : FBo V σ τ) {rc rf : Int32 → Int32 → Int32 → LH → Option LH} {u u' : Int32} : ∃ σ' τ', s_Branches_order_b rc (nI P) u' (dgO ord P) σ = some σ' ∧ s_Model_goFair_b rf (nI d) (nI P) u τ = some τ' ∧ FR scC σ σ' ∧ FT scM τ τ' ∧ QX I σ' τ' S P n0 n E go L ln qn sn mm M ∧ FBo True σ' τ' ∧ (∀ b, 96 ≤ b → b < 96 + 9 * P → σ'.1 b = σ.1 b) ∧ σ'.1 81 5 = σ.1 81 5 ∧ ∀ j, τ'.1 594 j = τ.1 594 j := by
  have hh : gh (96 + 9 * P) := by unfold gh; omega
  obtain ⟨w', τd, gap, r1, r2, r3, r4, r5, r6, r7, r8⟩ := f_run (rf := rf) (u := u) hD hL X0 X fσ fτ hP0 hP5 hPE hP ho hop
  have fg : FR scC σ (sH σ (96 + 9 * P) w') := FR.g hh
  have s4 : (sH σ (96 + 9 * P) w').1 4 1 = nI P := by rw [sH_lo (by omega)]; exact X.hP
  have s81 : (sH σ (96 + 9 * P) w').1 81 = σ.1 81 := sH_lo (by omega)
  have slo : ∀ b, 96 ≤ b → b < 96 + 9 * P → (sH σ (96 + 9 * P) w').1 b = σ.1 b := fun b _ h2 => sH_lo h2
  have dg : s_Model_digitsIn 594 (nI P) (stI τd 570 53 gap) = some (dgO ord P, stI τd 570 53 gap) := by
    have := m_digO (τ := stI τd 570 53 gap) (ord := ord) X.P8 (fun j hj => by rw [stI_n (by omega), r6]; exact ho j hj) P FUEL 0 (by omega) (by unfold FUEL; omega)
    rw [nI_0] at this
    exact this
  have uM : s_Model_goFair_100 rf (nI d) (nI P) u gap τd = some (stI (stI τd 570 53 gap) 570 54 (dgO ord P)) := by
    unfold s_Model_goFair_100
    rw [xl_so, stI_570, if_neg (by omega), r4.mP, dg, xb2_so, xl_so]
  rw [uM] at r3
  generalize hσd : sH σ (96 + 9 * P) w' = σd at *
  have cl : Int32.toNatClampNeg (nI P) = P := nI_clamp (by omega)
  have uC : s_Branches_order_b rc (nI P) u' (dgO ord P) σ = if σd.1 81 7 = -1 then some (stI (stI σd 81 7 gap) 81 6 (dgO ord P)) else if σd.1 81 7 ≤ gap then some σd else some (stI (stI σd 81 7 gap) 81 6 (dgO ord P)) := by
    unfold s_Branches_order_b
    rw [if_neg (show ¬ nI P < 0 from Int32.not_lt.mpr (nI_le (show 0 ≤ P by omega) (by omega) : nI 0 ≤ nI P)), if_pos (show nI P ≤ 5 from nI_le (b := 5) hP5 (by omega)), if_pos (ib_nI (by omega) (by omega)), cl, xl_so, X.hP, if_neg (nI_nlt (a := P) (b := P) (by omega) (by omega)), X.cE, r1, xb1_so, s4, r2, xb2_so]
    unfold s_Branches_order_76 s_Branches_order_87
    rfl
  have h0 := hV.1
  by_cases q : σ.1 81 7 = -1 ∨ gap < σ.1 81 7
  · have qM : τd.1 570 53 = -1 ∨ gap < τd.1 570 53 := by rw [r7, h0]; exact q
    refine ⟨stI (stI σd 81 7 gap) 81 6 (dgO ord P), stI (stI τd 570 53 gap) 570 54 (dgO ord P), ?_, ?_, (fg.tr (FR.I (by unfold scC; omega))).tr (FR.I (by unfold scC; omega)), (r5.tr (FT.I (by unfold scM; omega))).tr (FT.I (by unfold scM; omega)), ?_, ⟨?_, Or.inl trivial, fun _ => ?_⟩, ?_, ?_, ?_⟩
    · rw [uC, s81]
      rcases q with q | q
      · rw [if_pos q]
      · by_cases q2 : σ.1 81 7 = -1
        · rw [if_pos q2]
        · rw [if_neg q2, if_neg (Int32.not_le.mpr q)]
    · rw [r3]
      rcases qM with q | q
      · rw [if_pos q]
      · by_cases q2 : τd.1 570 53 = -1
        · rw [if_pos q2]
        · rw [if_neg q2, if_pos q]
    · refine r4.q ((FR.I (by unfold scC; omega)).tr (FR.I (by unfold scC; omega))) ((FT.I (by unfold scM; omega)).tr (FT.I (by unfold scM; omega))) ⟨?_, ?_, ?_, ?_⟩ (hD.I (hD.I r4.it (by omega)) (by omega))
      · rw [stI_n (by omega), stI_n (by omega)]; exact r4.fin.1
      · rw [stI_n (by omega), stI_n (by omega)]; exact r4.fin.2.1
      · rw [stI_570, if_neg (by omega), stI_570, if_neg (by omega)]; exact r4.fin.2.2.1
      · rw [stI_570, if_neg (by omega), stI_570, if_neg (by omega)]; exact r4.fin.2.2.2
    · rw [stI_570, if_neg (by omega), stI_570, if_pos rfl, stI_e, if_neg (by omega), stI_e, if_pos rfl]
    · rw [stI_570, if_pos rfl, stI_e, if_pos rfl]
    · intro b h1 h2
      rw [stI_n (by omega), stI_n (by omega)]
      exact slo b h1 h2
    · rw [stI_e, if_neg (by omega), stI_e, if_neg (by omega), s81]
    · intro j
      rw [stI_n (by omega), stI_n (by omega), r6]
  · have q1 : ¬ σ.1 81 7 = -1 := fun z => q (Or.inl z)
    have q2 : ¬ gap < σ.1 81 7 := fun z => q (Or.inr z)
    refine ⟨σd, τd, ?_, ?_, fg, r5, r4, ⟨by rw [r7, s81]; exact h0, Or.inl trivial, fun _ => by rw [r8, s81]; exact hV.2.2 (hV.2.1.resolve_right q1)⟩, slo, by rw [s81], r6⟩
    · rw [uC, s81, if_neg q1, if_pos (Int32.not_lt.mp q2)]
    · rw [r3, r7, h0, if_neg q1, if_neg q2]
end
