/-! fair: all orders, in both -/
section
variable {I : LH → Prop} {σ τ σ' τ' σ0 τ0 : LH} {S P n0 n E mm M d k : Nat} {go ord ord' : Nat → Nat} {L : Nat → Nat → Nat → Int32} {ln : Nat → Nat → Nat → Nat} {qn sn : Nat → Nat}
/-- what is asked of an order gone through so far -/
def OS (I : LH → Prop) (L : Nat → Nat → Nat → Int32) (σ0 τ0 : LH) (S P n0 n E : Nat) (go : Nat → Nat) (ln : Nat → Nat → Nat → Nat) (qn sn : Nat → Nat) (mm M d k : Nat) (ord : Nat → Nat) (σ τ : LH) : Prop := QX I σ τ S P n0 n E go L ln qn sn mm M ∧ FR scC σ0 σ ∧ FT scM τ0 τ ∧ PIx L σ0 τ0 S P n n0 mm M d go ord k (gH σ (96 + 9 * k)) ∧ (∀ j, j < k → τ.1 594 j = nI (ord j)) ∧ σ.1 81 5 = nI d
/-- the halls below stand, as do the length and the order so far -/
def OF (k l : Nat) (σ τ σ' τ' : LH) : Prop := FR scC σ σ' ∧ FT scM τ τ' ∧ (∀ b, 96 ≤ b → b < 96 + 9 * l → σ'.1 b = σ.1 b) ∧ σ'.1 81 5 = σ.1 81 5 ∧ ∀ j, j < k → τ'.1 594 j = τ.1 594 j
theorem OF.rf {l : Nat} : OF k l σ τ σ τ := ⟨FR.rf, FT.rf, fun _ _ _ => rfl, rfl, fun _ _ => rfl⟩
theorem OF.tr {l : Nat} {σ'' τ'' : LH} (h : OF k l σ τ σ' τ') (h' : OF k l σ' τ' σ'' τ'') : OF k l σ τ σ'' τ'' := ⟨h.1.tr h'.1, h.2.1.tr h'.2.1, fun b h1 h2 => (h'.2.2.1 b h1 h2).trans (h.2.2.1 b h1 h2), h'.2.2.2.1.trans h.2.2.2.1, fun j hj => (h'.2.2.2.2 j hj).trans (h.2.2.2.2 j hj)⟩
theorem OF.lo {l k' l' : Nat} (h : OF k' l' σ τ σ' τ') (h1 : k ≤ k') (h2 : l ≤ l') : OF k l σ τ σ' τ' := ⟨h.1, h.2.1, fun b h3 h4 => h.2.2.1 b h3 (by omega), h.2.2.2.1, fun j hj => h.2.2.2.2 j (by omega)⟩
theorem OS.of (h : OS I L σ0 τ0 S P n0 n E go ln qn sn mm M d k ord σ τ) (f : OF k (k + 1) σ τ σ' τ') (X : QX I σ' τ' S P n0 n E go L ln qn sn mm M) : OS I L σ0 τ0 S P n0 n E go ln qn sn mm M d k ord σ' τ' := by
  refine ⟨X, h.2.1.tr f.1, h.2.2.1.tr f.2.1, h.2.2.2.1.we ?_ X.S8 X.P8, fun j hj => (f.2.2.2.2 j hj).trans (h.2.2.2.2.1 j hj), f.2.2.2.1.trans h.2.2.2.2.2⟩
  have e : ∀ c, c < 9 → gH σ' (96 + 9 * k) c = gH σ (96 + 9 * k) c := fun c hc => f.2.2.1 (96 + 9 * k + c) (by omega) (by omega)
  exact ⟨fun c _ _ j _ => by rw [e c (by omega)], by rw [e 0 (by omega)], by rw [e 0 (by omega)], by rw [e 0 (by omega)]⟩
/-- one more at the end of an order -/
theorem f_step (hD : Idep I) (X0 : QX I σ0 τ0 S P n0 n E go L ln qn sn mm M) (h : OS I L σ0 τ0 S P n0 n E go ln qn sn mm M d k ord σ τ) (hP5 : P ≤ 5) (hk : k < P) (hPE : mm + P ≤ E) (hd : d < 100) {y : Nat} (hy : y < P) : ∃ σ1 σ2 σ3 σ4 τ2, s_Hall_beginAs (96 + 9 * (k + 1)) (96 + 9 * k) σ = some σ1 ∧ s_Evening_addGoing (nI y) (σ1.1 (96 + 9 * (k + 1)) 7) (σ1.1 81 5) σ1 = some σ2 ∧ s_Evening_pass (96 + 9 * (k + 1)) σ2 = some σ3 ∧ s_Evening_dropGoing σ3 = some σ4 ∧ τ2 = stI τ 594 k (nI y) ∧ OS I L σ0 τ0 S P n0 n E go ln qn sn mm M d (k + 1) (fun i => if i = k then y else ord i) σ4 τ2 ∧ OF k (k + 1) σ τ σ4 τ2 ∧ σ4.1 81 = σ.1 81 ∧ τ2.1 570 = τ.1 570 := by
  obtain ⟨X, fσ, fτ, hI, h94, h5⟩ := h
  have hS8 := X.S8
  have hP8 := X.P8
  have hE := X.e100
  obtain ⟨ord', ho'⟩ : ∃ o : Nat → Nat, o = fun i => if i = k then y else ord i := ⟨_, rfl⟩
  have ok : ord' k = y := by rw [ho']; exact if_pos rfl
  have ol : ∀ i, i < k → ord' i = ord i := fun i hi => by rw [ho']; exact if_neg (by omega)
  have hh : gh (96 + 9 * (k + 1)) := by unfold gh; omega
  have hb := h_beginAs (σ := σ) (a := 96 + 9 * (k + 1)) (b := 96 + 9 * k) (x := gH σ (96 + 9 * (k + 1))) (y := gH σ (96 + 9 * k)) (by omega) (fun c hc => rfl)
  rw [sH_gH] at hb
  have we : WE (gH σ (96 + 9 * k)) (wBeg (gH σ (96 + 9 * (k + 1))) (gH σ (96 + 9 * k))) := wBeg_e
  generalize wBeg (gH σ (96 + 9 * (k + 1))) (gH σ (96 + 9 * k)) = w1 at hb we
  have X2 : QX I σ τ0 S P n0 n E go L ln qn sn mm M := X0.q fσ FT.rf ⟨X.fin.1, X.fin.2.1, X0.fin.2.2.1, X0.fin.2.2.2⟩ X0.it
  have hI' := hI.cg (ord' := ord') ol (by omega)
  have w7 : w1 0 7 = nI (mm + k) := we.2.1.trans (hI.w7 (by omega) X0)
  obtain ⟨w2, p1, p2⟩ := hI'.step (h := 96 + 9 * (k + 1)) (p := y) X2 X0 we (by omega) hy hd (by omega) ok (by omega) fσ.lo
  have fr : FR scC σ (stI (sH (sE σ (nI y) (nI (mm + k)) (nI d)) (96 + 9 * (k + 1)) w2) 38 3 (-1)) := (FR.sE.tr (FR.g hh)).tr (FR.I (by unfold scC; omega))
  have ft : FT scM τ (stI τ 594 k (nI y)) := FT.I (by unfold scM; omega)
  have e81 : (stI (sH (sE σ (nI y) (nI (mm + k)) (nI d)) (96 + 9 * (k + 1)) w2) 38 3 (-1)).1 81 = σ.1 81 := by rw [stI_n (by omega), sH_lo (by omega), sE_n (by omega)]
  have e94 : ∀ j, j < k → (stI τ 594 k (nI y)).1 594 j = τ.1 594 j := fun j hj => by rw [stI_e, if_neg (by omega)]
  refine ⟨sH σ (96 + 9 * (k + 1)) w1, sH (sE σ (nI y) (nI (mm + k)) (nI d)) (96 + 9 * (k + 1)) w1, sH (sE σ (nI y) (nI (mm + k)) (nI d)) (96 + 9 * (k + 1)) w2, stI (sH (sE σ (nI y) (nI (mm + k)) (nI d)) (96 + 9 * (k + 1)) w2) 38 3 (-1), stI τ 594 k (nI y), hb, ?_, p1, g_dropG, rfl, ?_, ?_, e81, stI_n (by omega)⟩
  · rw [sH_in0, w7, sH_lo (b := 81) (by omega), h5, g_addG, sE_sH (by omega)]
  · rw [← ho']
    refine ⟨X.q fr ft ⟨?_, ?_, ?_, ?_⟩ (hD _ _ X.it (fun b hb => stI_n (by omega)) (by rw [stI_n (by omega)]) rfl), fσ.tr fr, fτ.tr ft, p2.we ?_ hS8 hP8, ?_, ?_⟩
    · rw [stI_e, if_neg (by omega), sH_lo (by omega), sE_3.1]; exact X.fin.1
    · rw [stI_e, if_pos rfl]
    · rw [stI_n (by omega)]; exact X.fin.2.2.1
    · rw [stI_n (by omega)]; exact X.fin.2.2.2
    · have e : ∀ c, c < 9 → gH (stI (sH (sE σ (nI y) (nI (mm + k)) (nI d)) (96 + 9 * (k + 1)) w2) 38 3 (-1)) (96 + 9 * (k + 1)) c = w2 c := fun c hc => by
        show (stI (sH (sE σ (nI y) (nI (mm + k)) (nI d)) (96 + 9 * (k + 1)) w2) 38 3 (-1)).1 (96 + 9 * (k + 1) + c) = _
        rw [stI_n (by omega), sH_in hc]
      exact ⟨fun c _ _ j _ => by rw [e c (by omega)], by rw [e 0 (by omega)], by rw [e 0 (by omega)], by rw [e 0 (by omega)]⟩
    · intro j hj
      by_cases q : j = k
      · subst q
        rw [stI_e, if_pos rfl, ok]
      · rw [e94 j (by omega), h94 j (by omega), ol j (by omega)]
    · rw [e81]; exact h5
  · refine ⟨fr, ft, fun b h1 h2 => ?_, by rw [e81], e94⟩
    rw [stI_n (by omega), sH_lo (by omega), sE_n (by omega)]
theorem f_rec (hD : Idep I) (hL : LKok I P S L) (X0 : QX I σ0 τ0 S P n0 n E go L ln qn sn mm M) (hP0 : 0 < P) (hP5 : P ≤ 5) (hPE : mm + P ≤ E) (hd : d < 100) : ∀ (r k fc fm : Nat) (u : Int32) (ord : Nat → Nat) (V : Prop) (σ τ : LH), k + r = P → r < fc → r < fm → OS I L σ0 τ0 S P n0 n E go ln qn sn mm M d k ord σ τ → (∀ j, j < k → ord j < P) → (∀ p, p < P → (((u >>> (nI p &&& 31)) &&& 1) = 0 ↔ ∀ i, i < k → ord i ≠ p)) → FBo V σ τ → ∃ σ' τ', s_Branches_order fc (nI k) u (dgO ord k) σ = some σ' ∧ s_Model_goFair fm (nI d) (nI k) u τ = some τ' ∧ OF k k σ τ σ' τ' ∧ QX I σ' τ' S P n0 n E go L ln qn sn mm M ∧ FBo True σ' τ' := by
  intro r
  induction r with
  | zero =>
    intro k fc fm u ord V σ τ hk hfc hfm hO hop hu hV
    obtain ⟨fc, rfl⟩ : ∃ q, fc = q + 1 := ⟨fc - 1, by omega⟩
    obtain ⟨fm, rfl⟩ : ∃ q, fm = q + 1 := ⟨fm - 1, by omega⟩
    have hkP : k = P := by omega
    subst hkP
    obtain ⟨X, fσ, fτ, hI, h94, h5⟩ := hO
    obtain ⟨σ', τ', t1, t2, t3, t4, t5, t6, t7, t8, t9⟩ := f_take (rc := s_Branches_order fc) (rf := s_Model_goFair fm) (u := u) (u' := u) hD hL X0 X fσ fτ hP0 hP5 hPE hI h94 hop hV
    exact ⟨σ', τ', t1, t2, ⟨t3, t4, t7, t8, fun j _ => t9 j⟩, t5, t6⟩
  | succ r ih =>
    intro k fc fm u ord V σ τ hk hfc hfm hO hop hu hV
    obtain ⟨fc, rfl⟩ : ∃ q, fc = q + 1 := ⟨fc - 1, by omega⟩
    obtain ⟨fm, rfl⟩ : ∃ q, fm = q + 1 := ⟨fm - 1, by omega⟩
    have hk1 : Int32.toNatClampNeg (nI k + 1) = k + 1 := by rw [nI_1, nI_clamp (by omega)]
    have loop : ∀ (m f1 f2 y : Nat) (V : Prop) (σ1 τ1 : LH), y + m = P → m < f1 → m < f2 → OS I L σ0 τ0 S P n0 n E go ln qn sn mm M d k ord σ1 τ1 → FBo V σ1 τ1 → ∃ σ' τ', s_Branches_order_91 (s_Branches_order fc) (nI k) u (dgO ord k) f1 (96 + 9 * k) (nI y) σ1 = some σ' ∧ s_Model_goFair_125 (s_Model_goFair fm) (nI d) (nI k) u f2 (nI y) τ1 = some τ' ∧ OF k (k + 1) σ1 τ1 σ' τ' ∧ OS I L σ0 τ0 S P n0 n E go ln qn sn mm M d k ord σ' τ' ∧ FBo (V ∨ ∃ p, y ≤ p ∧ p < P ∧ ∀ i, i < k → ord i ≠ p) σ' τ' := by
      intro m
      induction m with
      | zero =>
        intro f1 f2 y V σ1 τ1 hy h1 h2 hO hV
        obtain ⟨f1, rfl⟩ : ∃ q, f1 = q + 1 := ⟨f1 - 1, by omega⟩
        obtain ⟨f2, rfl⟩ : ∃ q, f2 = q + 1 := ⟨f2 - 1, by omega⟩
        refine ⟨σ1, τ1, ?_, ?_, OF.rf, hO, hV.iff ⟨Or.inl, fun z => z.elim id (fun ⟨p, z1, z2, _⟩ => by omega)⟩⟩
        · rw [s_Branches_order_91]
          unfold s_Branches_order_91_b
          rw [hO.1.hP, if_pos (nI_le (by omega) (by omega))]
        · rw [s_Model_goFair_125]
          unfold s_Model_goFair_125_b
          rw [hO.1.mP, if_pos (nI_le (by omega) (by omega))]
      | succ m ihm =>
        intro f1 f2 y V σ1 τ1 hy h1 h2 hO hV
        obtain ⟨f1, rfl⟩ : ∃ q, f1 = q + 1 := ⟨f1 - 1, by omega⟩
        obtain ⟨f2, rfl⟩ : ∃ q, f2 = q + 1 := ⟨f2 - 1, by omega⟩
        by_cases q : ((u >>> (nI y &&& 31)) &&& 1) = 0
        · have qf := (hu y (by omega)).mp q
          obtain ⟨s1, s2, s3, s4, t2, e1, e2, e3, e4, e5, e6, e7, e8, e9⟩ := f_step hD X0 hO hP5 (by omega) hPE hd (y := y) (by omega)
          obtain ⟨s5, t5, r1, r2, r3, r4, r5⟩ := ih (k + 1) fc fm (u ||| (1 <<< (nI y &&& 31))) (fun i => if i = k then y else ord i) V s4 t2 (by omega) (by omega) (by omega) e6 (fun j hj => by
            show (if j = k then y else ord j) < P
            split
            · omega
            · exact hop j (by omega)) (fun p hp => by
            rw [bit_or (by omega) (by omega), hu p hp]
            constructor
            · rintro ⟨z1, z2⟩ i hi
              show (if i = k then y else ord i) ≠ p
              split
              · exact fun z => z1 z.symm
              · exact z2 i (by omega)
            · intro z
              refine ⟨fun w => ?_, fun i hi w => ?_⟩
              · have : (if k = k then y else ord k) ≠ p := z k (by omega)
                rw [if_pos rfl] at this
                exact this w.symm
              · have : (if i = k then y else ord i) ≠ p := z i (by omega)
                rw [if_neg (by omega)] at this
                exact this w) (hV.s e8 e9)
          have hdg : dgO (fun i => if i = k then y else ord i) (k + 1) = dgO ord k * 10 + nI y := by
            show 10 * dgO (fun i => if i = k then y else ord i) k + nI (if k = k then y else ord k) = _
            rw [if_pos rfl, dgO_cg k (fun i hi => if_neg (by omega)), Int32.mul_comm]
          rw [hdg] at r1
          have o1 : OF k (k + 1) σ1 τ1 s5 t5 := e7.tr (r3.lo (by omega) (by omega))
          have hO5 := hO.of o1 r4
          obtain ⟨s6, t6, v1, v2, v3, v4, v5⟩ := ihm f1 f2 (y + 1) True s5 t5 (by omega) (by omega) (by omega) hO5 r5
          refine ⟨s6, t6, ?_, ?_, o1.tr v3, v4, v5.t (Or.inl trivial) (Or.inr ⟨y, Nat.le_refl y, by omega, qf⟩)⟩
          · rw [s_Branches_order_91]
            unfold s_Branches_order_91_b s_Branches_order_186
            rw [hO.1.hP, if_neg (nI_ge (by omega) (by omega)), if_pos q, nI_1, if_pos (ib_nI (by omega) (by omega)), nI_clamp (show k + 1 < 2 ^ 31 by omega), xl_so, e1, xb1_so, e2, xb1_so, e3, xb1_so, e4, xb1_so, r1, xb1_so, nI_1, xl_so]
            exact v1
          · rw [s_Model_goFair_125]
            unfold s_Model_goFair_125_b s_Model_goFair_168
            rw [hO.1.mP, if_neg (nI_ge (by omega) (by omega)), m_has, xb2_so, if_neg (c := ((u >>> (nI y &&& 31)) &&& 1) = 1) (fun z => by rw [q] at z; exact absurd z (by decide)), if_pos rfl, if_pos (ib_nI (by omega) (by omega)), nI_clamp (show k < 2 ^ 31 by omega), xl_so, nI_1, ← e5, r2, xb1_so, nI_1, xl_so]
            exact v2
        · have qf : ¬ ∀ i, i < k → ord i ≠ y := fun z => q ((hu y (by omega)).mpr z)
          have q1 : ((u >>> (nI y &&& 31)) &&& 1) = 1 := (and_one01 _).resolve_left q
          obtain ⟨s6, t6, v1, v2, v3, v4, v5⟩ := ihm f1 f2 (y + 1) V σ1 τ1 (by omega) (by omega) (by omega) hO hV
          refine ⟨s6, t6, ?_, ?_, v3, v4, v5.iff ⟨fun z => z.imp id (fun ⟨p, z1, z2⟩ => ⟨p, by omega, z2⟩), fun z => z.imp id (fun ⟨p, z1, z2, z3⟩ => ⟨p, by
            by_cases w : p = y
            · subst w; exact absurd z3 qf
            · omega, z2, z3⟩)⟩⟩
          · rw [s_Branches_order_91]
            unfold s_Branches_order_91_b s_Branches_order_186
            rw [hO.1.hP, if_neg (nI_ge (by omega) (by omega)), if_neg q, nI_1, xl_so]
            exact v1
          · rw [s_Model_goFair_125]
            unfold s_Model_goFair_125_b s_Model_goFair_168
            rw [hO.1.mP, if_neg (nI_ge (by omega) (by omega)), m_has, xb2_so, if_pos q1, if_neg (show ¬ (1 : Int32) = 0 by decide), nI_1, xl_so]
            exact v2
    obtain ⟨σ', τ', l1, l2, l3, l4, l5⟩ := loop P FUEL FUEL 0 V σ τ (by omega) (by unfold FUEL; omega) (by unfold FUEL; omega) hO hV
    rw [nI_0] at l1 l2
    refine ⟨σ', τ', ?_, ?_, l3.lo (Nat.le_refl k) (by omega), l4.1, l5.t ?_ trivial⟩
    · rw [s_Branches_order]
      unfold s_Branches_order_b
      rw [if_neg (show ¬ nI k < 0 from Int32.not_lt.mpr (nI_le (show 0 ≤ k by omega) (by omega) : nI 0 ≤ nI k)), if_pos (show nI k ≤ 5 from nI_le (b := 5) (by omega) (by omega)), if_pos (ib_nI (by omega) (by omega)), nI_clamp (show k < 2 ^ 31 by omega), xl_so, hO.1.hP, if_pos ((nI_ltI (by omega) (by omega)).mpr (by omega))]
      exact l1
    · rw [s_Model_goFair]
      unfold s_Model_goFair_b
      rw [hO.1.mP, if_neg (show ¬ nI k = nI P from fun z => by have := nI_ij (by omega) (by omega) z; omega)]
      exact l2
    · obtain ⟨p, p1, p2⟩ := php k ord
      exact Or.inr ⟨p, by omega, by omega, p2⟩
end
