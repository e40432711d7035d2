/-! the class reads a room -/
theorem sh_bv : ∀ t, t < 8 → ((nI t &&& 31).toBitVec.smod 32).toNat = t ∧ (nI t &&& 31).toBitVec.smod 32 = BitVec.ofNat 32 t := by decide
theorem bit_0 {x : Int32} {t : Nat} (ht : t < 8) : ((x >>> (nI t &&& 31)) &&& 1) = 0 ↔ x.toBitVec.getLsbD t = false := by
  have e : ((x >>> (nI t &&& 31)) &&& 1).toBitVec = x.toBitVec.sshiftRight t &&& 1#32 := by
    show x.toBitVec.sshiftRight ((nI t &&& 31).toBitVec.smod 32).toNat &&& 1#32 = _
    rw [(sh_bv t ht).1]
  rw [← Int32.toBitVec_inj, e]
  show _ = 0#32 ↔ _
  constructor
  · intro h
    have := congrArg (fun v => v.getLsbD 0) h
    simp only [BitVec.getLsbD_and, BitVec.getLsbD_sshiftRight] at this
    rw [if_pos (by omega)] at this
    simpa using this
  · intro h
    apply BitVec.eq_of_getLsbD_eq
    intro i hi
    rw [BitVec.getLsbD_and, BitVec.getLsbD_sshiftRight]
    by_cases q : i = 0
    · subst q
      rw [if_pos (by omega)]
      simp [h]
    · have : (1#32).getLsbD i = false := by
        have : ∀ i, i < 32 → i ≠ 0 → (1#32).getLsbD i = false := by decide
        exact this i hi q
      rw [this]
      simp
theorem bit_or {x : Int32} {s t : Nat} (hs : s < 8) (ht : t < 8) : (((x ||| (1 <<< (nI s &&& 31))) >>> (nI t &&& 31)) &&& 1) = 0 ↔ (t ≠ s ∧ ((x >>> (nI t &&& 31)) &&& 1) = 0) := by
  rw [bit_0 ht, bit_0 ht]
  have e : (x ||| (1 <<< (nI s &&& 31))).toBitVec = x.toBitVec ||| (1#32 <<< s) := by
    show x.toBitVec ||| (1#32 <<< ((nI s &&& 31).toBitVec.smod 32)) = _
    rw [(sh_bv s hs).2]
    have : ∀ s, s < 8 → 1#32 <<< (BitVec.ofNat 32 s) = 1#32 <<< s := by decide
    rw [this s hs]
  rw [e, BitVec.getLsbD_or]
  have : ∀ s, s < 8 → ∀ t, t < 8 → (1#32 <<< s).getLsbD t = decide (t = s) := by decide
  rw [this s hs t ht]
  by_cases q : t = s
  · simp [q]
  · simp [q]
section
variable {σ σ' : LH} {B : Nat → Nat} {e a k rm : Nat} {R : RM} {I : Nat → Int32} {f : Int32}
theorem cw91 (h : CRm σ rm R) (hB : RB R) (hw : whR R = true ↔ ∀ g, g < R.1 2 → R.2 2 g 0 < R.1 1) : ∀ (m n g : Nat), g + m = R.1 2 → m < n → (∀ g', g' < g → R.2 2 g' 0 < R.1 1) → s_Room_isWhole_91 rm n (nI g) σ = some (if whR R = true then 1 else 0, σ) := by
  have hG : R.1 2 ≤ 10 := (h.1 2 (by omega)).2
  have hP : R.1 1 ≤ 8 := (h.1 1 (by omega)).2
  have v1 := (h.1 1 (by omega)).1
  have v2 := (h.1 2 (by omega)).1
  intro m
  induction m with
  | zero =>
    intro n g hg hn hq
    obtain ⟨n, rfl⟩ : ∃ k, n = k + 1 := ⟨n - 1, by omega⟩
    rw [s_Room_isWhole_91]
    unfold s_Room_isWhole_91_b
    rw [v2, if_pos (nI_le (by omega) (by omega)), if_pos (hw.mpr (fun g' h' => hq g' (by omega)))]
  | succ m ih =>
    intro n g hg hn hq
    obtain ⟨n, rfl⟩ : ∃ k, n = k + 1 := ⟨n - 1, by omega⟩
    have vg : σ.1 (rm + 8) g = nI (R.2 2 g 0) := h.2.1 2 (by omega) g (by omega) 0 (show 0 < 3 by omega)
    have hb : R.2 2 g 0 ≤ 7 := (hB 2 (by omega) g (Or.inl (by omega)) 0 (show 0 < 3 by omega)).2
    rw [s_Room_isWhole_91]
    unfold s_Room_isWhole_91_b
    rw [v2, if_neg (nI_ge (by omega) (by omega)), if_pos (ib_nI (by omega) (by omega)), nI_clamp (show g < 2 ^ 31 by omega), vg, v1]
    by_cases q : R.2 2 g 0 < R.1 1
    · rw [if_pos (nI_lt q (by omega))]
      simp only [xl]
      rw [nI_1]
      exact ih n (g + 1) (by omega) (by omega) (fun g' h' => by
        by_cases x : g' = g
        · rw [x]; exact q
        · exact hq g' (by omega))
    · rw [if_neg (nI_nlt (by omega) (by omega)), if_neg (fun z => q (hw.mp z g (by omega)))]
theorem cw22 (h : CRm σ rm R) (hB : RB R) (hS1 : 1 ≤ R.1 0) (hP1 : 1 ≤ R.1 1) : ∀ (m n p : Nat) (y1 : Int32), p + m = R.1 1 → m < n → (∀ s, s < 8 → (((y1 >>> (nI s &&& 31)) &&& 1) = 0 ↔ ∀ q, q < p → R.2 1 q 0 ≠ s)) → (∀ p', p' < p → okR R p') → s_Room_isWhole_22 rm n y1 (nI p) σ = some (if whR R = true then 1 else 0, σ) := by
  have hS : R.1 0 ≤ 8 := (h.1 0 (by omega)).2
  have hG : R.1 2 ≤ 10 := (h.1 2 (by omega)).2
  have hP : R.1 1 ≤ 8 := (h.1 1 (by omega)).2
  have v0 := (h.1 0 (by omega)).1
  have v1 := (h.1 1 (by omega)).1
  intro m
  induction m with
  | zero =>
    intro n p y1 hp hn hy hq
    obtain ⟨n, rfl⟩ : ∃ k, n = k + 1 := ⟨n - 1, by omega⟩
    rw [s_Room_isWhole_22]
    unfold s_Room_isWhole_22_b
    rw [v1, if_pos (nI_le (by omega) (by omega)), ← nI_0]
    refine cw91 h hB ?_ (R.1 2) FUEL 0 (by omega) (by unfold FUEL; omega) (fun g' h' => by omega)
    rw [whR_iff]
    exact ⟨fun z => z.2.2.2, fun z => ⟨hS1, hP1, fun p' h' => hq p' (by omega), z⟩⟩
  | succ m ih =>
    intro n p y1 hp hn hy hq
    obtain ⟨n, rfl⟩ : ∃ k, n = k + 1 := ⟨n - 1, by omega⟩
    have vp : σ.1 (rm + 4) p = nI (R.2 1 p 0) := h.2.1 1 (by omega) p (by omega) 0 (show 0 < 4 by omega)
    have hb := hB.b (show p < R.1 1 by omega)
    have bad : ¬ okR R p → whR R = true → False := fun z w => z ((whR_iff.mp w).2.2.1 p (by omega))
    rw [s_Room_isWhole_22]
    unfold s_Room_isWhole_22_b s_Room_isWhole_83 s_Room_isWhole_70
    simp only [if_pos (ib_nI (show p < 8 by omega) (show 8 < 2 ^ 31 by omega)), nI_clamp (show p < 2 ^ 31 by omega)]
    rw [v1, if_neg (nI_ge (by omega) (by omega)), vp, v0]
    simp only [xl]
    rw [nI_1]
    by_cases q8 : R.2 1 p 0 = 8
    · rw [if_pos (show nI (R.2 1 p 0) = 8 by rw [q8]; rfl)]
      refine ih n (p + 1) y1 (by omega) (by omega) (fun s hs => ?_) (fun p' h' => ?_)
      · rw [hy s hs]
        constructor
        · intro z q hq2
          by_cases x : q = p
          · rw [x, q8]; omega
          · exact z q (by omega)
        · intro z q hq2
          exact z q (by omega)
      · by_cases x : p' = p
        · rw [x]; exact Or.inl q8
        · exact hq p' (by omega)
    · rw [if_neg (show ¬ nI (R.2 1 p 0) = 8 from fun z => q8 (nI_ij (b := 8) (by omega) (by omega) z))]
      by_cases qS : R.1 0 ≤ R.2 1 p 0
      · rw [if_pos (nI_le qS (by omega)), if_neg (fun z => bad (fun o => by
          rcases o with x | x
          · exact q8 x
          · have := x.1; omega) z)]
      · rw [if_neg (nI_ge (by omega) (by omega))]
        have hyp := hy (R.2 1 p 0) (by omega)
        by_cases qb : ((y1 >>> (nI (R.2 1 p 0) &&& 31)) &&& 1) = 0
        · rw [if_pos qb]
          have fr := hyp.mp qb
          refine ih n (p + 1) _ (by omega) (by omega) (fun s hs => ?_) (fun p' h' => ?_)
          · rw [bit_or (show R.2 1 p 0 < 8 by omega) hs, hy s hs]
            constructor
            · intro z q hq2
              by_cases x : q = p
              · rw [x]; exact fun y => z.1 y.symm
              · exact z.2 q (by omega)
            · intro z
              exact ⟨fun y => z p (by omega) y.symm, fun q hq2 => z q (by omega)⟩
          · by_cases x : p' = p
            · rw [x]; exact Or.inr ⟨by omega, fr⟩
            · exact hq p' (by omega)
        · rw [if_neg qb, if_neg (fun z => bad (fun o => by
            rcases o with x | x
            · exact q8 x
            · exact qb (hyp.mpr x.2)) z)]
theorem r_whole (h : CRm σ rm R) (hB : RB R) : s_Room_isWhole rm σ = some (if whR R = true then 1 else 0, σ) := by
  have hS : R.1 0 ≤ 8 := (h.1 0 (by omega)).2
  have hP : R.1 1 ≤ 8 := (h.1 1 (by omega)).2
  have v0 := (h.1 0 (by omega)).1
  have v1 := (h.1 1 (by omega)).1
  unfold s_Room_isWhole s_Room_isWhole_16
  rw [v0, v1]
  by_cases q1 : R.1 0 = 0
  · rw [if_pos (show nI (R.1 0) < 1 by rw [q1]; decide), if_neg (fun z => by have := (whR_iff.mp z).1; omega)]
  · rw [if_neg (show ¬ nI (R.1 0) < 1 from nI_nlt (b := 1) (by omega) (by omega))]
    by_cases q2 : R.1 1 = 0
    · rw [if_neg (show ¬ 1 ≤ nI (R.1 1) by rw [q2]; decide), if_neg (fun z => by have := (whR_iff.mp z).2.1; omega)]
    · rw [if_pos (show 1 ≤ nI (R.1 1) from nI_le (a := 1) (by omega) (by omega)), ← nI_0]
      exact cw22 h hB (by omega) (by omega) (R.1 1) FUEL 0 _ (by omega) (by unfold FUEL; omega) (fun s hs => ⟨fun _ q hq => by omega, fun _ => by
        rw [bit_0 hs]
        show (0#32).getLsbD s = false
        simp⟩) (fun p' h' => by omega)
theorem tS_id (h1 : σ.1 2 2 = nI a) (h2 : σ.1 2 3 = f) : tS σ a f = σ := by
  have up : ∀ (s : LH) (j : Nat) (v : Int32), s.1 2 j = v → stI s 2 j v = s := fun s j v hv => by
    unfold stI
    have : upd (s.1 2) j v = s.1 2 := by
      funext i
      rw [upd_e]
      by_cases q : i = j
      · rw [if_pos q, q, hv]
      · rw [if_neg q]
    rw [this, stF_id]
  unfold tS
  rw [up σ 2 (nI a) h1, up σ 3 f h2]
theorem r_full (h : CRm σ rm R) (hk : k < 4) : s_RoomReader_isFull rm (nI k) σ = some (if R.1 k < capR k then 0 else 1, σ) := by
  have v := (h.1 k hk).1
  have c := (h.1 k hk).2
  unfold s_RoomReader_isFull s_RoomReader_isFull_42 s_RoomReader_isFull_57 s_RoomReader_isFull_72 s_RoomReader_isFull_86
  rw [if_pos (show zb 0 from Or.inl rfl), if_pos (show zb 1 from Or.inr rfl)]
  rcases (show k = 0 ∨ k = 1 ∨ k = 2 ∨ k = 3 by omega) with rfl | rfl | rfl | rfl
  · rw [if_pos (show (nI 0).toInt = 0 by decide), v]
    show (if nI (R.1 0) < 8 then _ else _) = some (if R.1 0 < 8 then _ else _, σ)
    have : R.1 0 ≤ 8 := c
    by_cases z : R.1 0 < 8
    · rw [if_pos z, if_pos (show nI (R.1 0) < 8 from nI_lt (b := 8) z (by omega))]
    · rw [if_neg z, if_neg (show ¬ nI (R.1 0) < 8 from nI_nlt (b := 8) (by omega) (by omega))]
  · rw [if_neg (show ¬ (nI 1).toInt = 0 by decide), if_pos (show (nI 1).toInt = 1 by decide), v]
    show (if nI (R.1 1) < 8 then _ else _) = some (if R.1 1 < 8 then _ else _, σ)
    have : R.1 1 ≤ 8 := c
    by_cases z : R.1 1 < 8
    · rw [if_pos z, if_pos (show nI (R.1 1) < 8 from nI_lt (b := 8) z (by omega))]
    · rw [if_neg z, if_neg (show ¬ nI (R.1 1) < 8 from nI_nlt (b := 8) (by omega) (by omega))]
  · rw [if_neg (show ¬ (nI 2).toInt = 0 by decide), if_neg (show ¬ (nI 2).toInt = 1 by decide), if_pos (show (nI 2).toInt = 2 by decide), v]
    show (if nI (R.1 2) < 10 then _ else _) = some (if R.1 2 < 10 then _ else _, σ)
    have : R.1 2 ≤ 10 := c
    by_cases z : R.1 2 < 10
    · rw [if_pos z, if_pos (show nI (R.1 2) < 10 from nI_lt (b := 10) z (by omega))]
    · rw [if_neg z, if_neg (show ¬ nI (R.1 2) < 10 from nI_nlt (b := 10) (by omega) (by omega))]
  · rw [if_neg (show ¬ (nI 3).toInt = 0 by decide), if_neg (show ¬ (nI 3).toInt = 1 by decide), if_neg (show ¬ (nI 3).toInt = 2 by decide), v]
    show (if nI (R.1 3) < 1 then _ else _) = some (if R.1 3 < 1 then _ else _, σ)
    have : R.1 3 ≤ 1 := c
    by_cases z : R.1 3 < 1
    · rw [if_pos z, if_pos (show nI (R.1 3) < 1 from nI_lt (b := 1) z (by omega))]
    · rw [if_neg z, if_neg (show ¬ nI (R.1 3) < 1 from nI_nlt (b := 1) (by omega) (by omega))]
theorem CRm.tS (h : CRm σ rm R) (hrm : 4 ≤ rm) : CRm (tS σ a f) rm R := h.fr (fun b h1 _ => tS_n (by omega))
theorem CRm.F (h : CRm σ rm R) (hrm : rm + 10 < 27) : CRm (stF σ 27 I) rm R := h.fr (fun b _ h2 => stF_n (by omega))
theorem r_cls (h : TT σ B e) (hR : CRm σ rm R) (hrm : 4 ≤ rm) (hr27 : rm + 10 < 27) (ha : a ≤ e) : match kiR (chA B e (sk B e a)) with
    | none => s_RoomReader_readClause rm (tS σ a (-1)) = some (0, tS σ (sk B e a) (nI (sk B e a)))
    | some k => if R.1 k < capR k then (match pIt B e k (e + 1) (sk B e a + 1) 0 (usuR k) with
      | .inl f => ∃ a' σ', s_RoomReader_readClause rm (tS σ a (-1)) = some (0, tS σ' a' (nI f)) ∧ FR (wRc rm) σ σ'
      | .inr q => if chA B e q.2 = 59 then ∃ σ', s_RoomReader_readClause rm (tS σ a (-1)) = some (1, tS σ' (q.2 + 1) (-1)) ∧ FR (wRc rm) σ σ' ∧ CRm σ' rm (addR R k q.1) else if chA B e q.2 = 0 then ∃ σ', s_RoomReader_readClause rm (tS σ a (-1)) = some (0, tS σ' q.2 (-1)) ∧ FR (wRc rm) σ σ' ∧ CRm σ' rm (addR R k q.1) else ∃ σ', s_RoomReader_readClause rm (tS σ a (-1)) = some (0, tS σ' q.2 (nI q.2)) ∧ FR (wRc rm) σ σ') else s_RoomReader_readClause rm (tS σ a (-1)) = some (0, tS σ (sk B e a) (nI (sk B e a))) := by
  have he := h.1
  have g1 := sk_le (B := B) ha
  have f23 : s_RoomReader_readClause_23 rm (tS σ (sk B e a) (-1)) = some (0, tS σ (sk B e a) (nI (sk B e a))) := by
    unfold s_RoomReader_readClause_23
    rw [tS_a, r_fail]
    rfl
  obtain ⟨g, hg⟩ : ∃ g, g = s_RoomReader_readClause rm (tS σ a (-1)) := ⟨_, rfl⟩
  rw [← hg]
  unfold s_RoomReader_readClause at hg
  rw [r_let1 h ha] at hg
  simp only [xb2] at hg
  cases hk : kiR (chA B e (sk B e a)) with
  | none =>
    rw [hk, show oI none = -1 from rfl, if_pos rfl, f23] at hg
    exact hg
  | some k =>
    have hk4 := kiR_lt hk
    have hlt : sk B e a < e := by
      refine Decidable.byContradiction fun q => ?_
      rw [chA_out (by omega)] at hk
      exact absurd hk (show kiR 0 ≠ some k by rw [show kiR 0 = none by decide]; exact fun z => by cases z)
    rw [hk, show oI (some k) = nI k from rfl, if_neg (nI_m1 (by omega)), r_full (hR.tS hrm) hk4] at hg
    · simp only at hg ⊢
      by_cases q : R.1 k < capR k
      · rw [if_pos q] at hg ⊢
        rw [if_pos rfl] at hg
        simp only [xl] at hg
        rw [tS_a, nI_1, tS_sa] at hg
        have idF : stF σ 27 (σ.1 27) = σ := stF_id
        have it := r_rItems (I := σ.1 27) h hk4 (show sk B e a + 1 ≤ e by omega) (by omega)
        rw [idF] at it
        have pb := pIt_bd (B := B) (e := e) hk4 (e + 1) (sk B e a + 1) 0 (usuR k) (by omega) (by omega) (fun i hi => usuR_bd k hk4 i hi)
        have fF : ∀ I' : Nat → Int32, FR (wRc rm) σ (stF σ 27 I') := fun I' => ⟨fun b j z => by rw [stF_n (fun y => z (by unfold wRc; omega))], rfl⟩
        cases hp : pIt B e k (e + 1) (sk B e a + 1) 0 (usuR k) with
        | inl f =>
          rw [hp] at it pb
          obtain ⟨a', I', i1⟩ := it
          rw [i1] at hg
          simp only [xb1] at hg
          rw [r_fine, if_neg (nI_m1 (by simp only at pb; omega))] at hg
          simp only at hg
          rw [if_pos trivial] at hg
          exact ⟨a', _, hg, fF I'⟩
        | inr w =>
          rw [hp] at it pb
          simp only at it pb ⊢
          obtain ⟨p1, p2, p3, p4⟩ := pb
          by_cases qo : chA B e w.2 = 0 ∨ chA B e w.2 = 59
          · rw [if_pos qo] at it
            obtain ⟨I', i1, i2⟩ := it
            rw [i2] at hg
            simp only [xb1] at hg
            rw [r_fine, if_pos rfl] at hg
            simp only at hg
            rw [if_neg (show ¬ (1 : Int32) = 0 by decide)] at hg
            obtain ⟨s2, s3, s4, s5, s6⟩ := r_store (σ := tS (stF σ 27 I') w.2 (-1)) (it := w.1) ((hR.F hr27).tS hrm) hrm hr27 hk4 q (fun j hj => by rw [tS_n (by omega), stF_s]; exact i1 j hj)
            have id2 : tS s2 w.2 (-1) = s2 := tS_id (by rw [s5 2 (by omega), tS_a]) (by rw [s5 2 (by omega), tS_w])
            have fr2 : FR (wRc rm) σ s2 := (fF I').tr ((FR.tS (rm := rm) (a := w.2) (f := -1)).tr ⟨fun b j z => by rw [s5 b (Decidable.byContradiction fun y => z (by unfold wRc; omega))], s6⟩)
            have t2 := h.rd fr2 hrm
            rw [s3] at hg
            simp only at hg
            rw [← id2, show (59 : Int32) = nI 59 from rfl, r_takes t2 p2 (by omega) (by omega), p3] at hg
            by_cases q59 : chA B e w.2 = 59
            · rw [if_pos q59] at hg ⊢
              simp only at hg
              rw [if_pos (show zb 1 from Or.inr rfl)] at hg
              exact ⟨s2, hg, fr2, s4⟩
            · rw [if_neg q59] at hg ⊢
              simp only at hg
              rw [if_pos (show zb 0 from Or.inl rfl)] at hg
              have q0 : chA B e w.2 = 0 := qo.resolve_right q59
              rw [if_pos q0]
              exact ⟨s2, hg, fr2, s4⟩
          · rw [if_neg qo] at it
            obtain ⟨I', i2⟩ := it
            rw [i2] at hg
            simp only [xb1] at hg
            rw [r_fine, if_neg (nI_m1 (by omega))] at hg
            simp only at hg
            rw [if_pos trivial] at hg
            rw [if_neg (fun z => qo (Or.inr z)), if_neg (fun z => qo (Or.inl z))]
            exact ⟨_, hg, fF I'⟩
      · rw [if_neg q] at hg ⊢
        rw [if_neg (show ¬ (1 : Int32) = 0 by decide), f23] at hg
        exact hg
end
