/-! been: all choices gone through -/
section
variable {I : LH → Prop} {σ τ σ' τ' σ0 τ0 : LH} {S P n0 n E mm M T C k s s' : Nat} {go who cm lv : Nat → Nat} {whr : Nat → Int32} {L : Nat → Nat → Nat → Int32} {ln : Nat → Nat → Nat → Nat} {qn sn : Nat → Nat}
theorem EXk.f (h : EXk C cm k s s') (hs : s.testBit (cm k) = false) (hb : s'.testBit (cm k) = false) : EXk C cm (k + 1) s s' := by
  refine ⟨h.1, fun g hg hd => ?_⟩
  by_cases q : cm k = g
  · rw [← q, hs, hb]
  · exact h.2 g hg (fun d h1 h2 => by
      by_cases z : d = k
      · rw [z]; exact q
      · exact hd d (by omega) h2)
theorem EXk.t (h : EXk C cm k s s') (hb : s'.testBit (cm k) = true) : EXk C cm (k + 1) (s ||| 2 ^ cm k) s' := by
  refine ⟨h.1, fun g hg hd => ?_⟩
  rw [tb_or]
  by_cases q : cm k = g
  · rw [← q, hb, decide_eq_true rfl, Bool.or_true]
  · rw [decide_eq_false q, Bool.or_false]
    exact h.2 g hg (fun d h1 h2 => by
      by_cases z : d = k
      · rw [z]; exact q
      · exact hd d (by omega) h2)
theorem EXk.uf (h : EXk C cm (k + 1) s s') : EXk C cm k s s' := ⟨h.1, fun g hg hd => h.2 g hg (fun d h1 h2 => hd d (by omega) h2)⟩
theorem EXk.ut (h : EXk C cm (k + 1) (s ||| 2 ^ cm k) s') (hk : k < C) : EXk C cm k s s' := by
  refine ⟨h.1, fun g hg hd => ?_⟩
  have := h.2 g hg (fun d h1 h2 => hd d (by omega) h2)
  rw [this, tb_or, decide_eq_false (hd k (Nat.le_refl k) hk), Bool.or_false]
theorem EXk.bt (h : EXk C cm (k + 1) (s ||| 2 ^ cm k) s') (hc : cm k < 10) (hi : ∀ d, k < d → d < C → cm d ≠ cm k) : s'.testBit (cm k) = true := by
  rw [h.2 (cm k) hc (fun d h1 h2 => hi d (by omega) h2), tb_or, decide_eq_true rfl, Bool.or_true]
theorem ch_rec (X0 : QX I σ0 τ0 S P n0 n E go L ln qn sn mm M) (hT : T ≤ 8) (hwP : ∀ i, i < T → who i < P) (hn : n0 ≤ 10) (hl : ∀ g, g < n0 → τ0.1 579 (3 * g + 1) = nI (lv g) ∧ lv g < 100) (h13 : ∀ g, g < n0 → σ0.1 13 g = nI (lv g)) (hQ : LUq lv n0 mm 100 0 C cm) : ∀ (r k fc s t : Nat) (σ : LH), k + r = C → r < fc → CHk L σ0 τ0 S P n0 n E mm M T C go who cm lv whr k s t σ → ∃ σ', s_Branches_choose fc (nI k) (nI s) σ = some σ' ∧ OFk k σ σ' ∧ (∀ s', EXk C cm k s s' → ∃ b, OUTs L τ0 S P n0 E mm go T who whr (τ0.1 583) (nI s') b ∧ σ'.1 86 s' = if b = true then 1 else 0) ∧ ∀ s', ¬ EXk C cm k s s' → σ'.1 86 s' = σ.1 86 s' := by
  have hC : C ≤ 10 := by have := hQ.c10; omega
  have hS8 := X0.S8
  have hP8 := X0.P8
  have hE := X0.e100
  have hmE := X0.mE
  have inj : ∀ d e, d < e → e < C → cm e ≠ cm d := fun d e h1 h2 z => by
    rcases hQ.2.1 d e h1 h2 with w | w
    · rw [z] at w; omega
    · omega
  intro r
  induction r with
  | zero =>
    intro k fc s t σ hk hf h
    obtain ⟨fc, rfl⟩ : ∃ q, fc = q + 1 := ⟨fc - 1, by omega⟩
    have e : k = C := by omega
    subst e
    obtain ⟨σ', r1, r2, r3, r4⟩ := ch_leaf (rf := s_Branches_choose fc) X0 hT hwP hC h
    have hs := h.2.2.2.2.1
    refine ⟨σ', r1, r2, fun s' hs' => ?_, fun s' hs' => r4 s' (fun z => hs' ?_)⟩
    · have : s' = s := tb_eq hs hs'.1 (fun g hg => hs'.2 g hg (fun d h1 h2 => by omega))
      rw [this]
      exact r3
    · rw [z]
      exact ⟨hs, fun _ _ _ => rfl⟩
  | succ r ih =>
    intro k fc s t σ hk hf h
    obtain ⟨fc, rfl⟩ : ∃ q, fc = q + 1 := ⟨fc - 1, by omega⟩
    obtain ⟨f1, h3, ⟨l1, l2⟩, ⟨t1, t2⟩, hs, ⟨ht1, ht2⟩, hB, hD⟩ := h
    obtain ⟨c1, c2, -⟩ := hQ.1 k (by omega)
    obtain ⟨d1, d2⟩ := hD k (Nat.le_refl k) (by omega)
    obtain ⟨l3, l4⟩ := hl (cm k) c1
    have fx : FR bcC σ (stI σ 38 2 (nI s)) := (FR.I (by unfold scC; omega) : FR scC σ (stI σ 38 2 (nI s))).bc
    have g0 : gH σ (96 + 9 * k) = gH (stI σ 38 2 (nI s)) (96 + 9 * k) := funext fun c => by
      show σ.1 (96 + 9 * k + c) = (stI σ 38 2 (nI s)).1 (96 + 9 * k + c)
      rw [stI_n (by omega)]
    obtain ⟨Z, hZ⟩ : ∃ Z, Z = min (lv (cm k)) E := ⟨_, rfl⟩
    obtain ⟨w2, r1, r2⟩ := hB.run (σ := stI σ 38 2 (nI s)) (h := 96 + 9 * k) (U := lv (cm k)) (Z := Z) X0 (f1.tr fx) (by rw [stI_e, if_pos rfl]) (by rw [stI_e, if_neg (by omega)]; exact h3) (by omega) (by omega) hZ ht1 (by omega)
    rw [g0, sH_gH] at r1
    have fH : FR bcC (stI σ 38 2 (nI s)) (sH (stI σ 38 2 (nI s)) (96 + 9 * k) w2) := FR.bH (by omega) (by omega)
    have o1 : OFk k σ (sH (stI σ 38 2 (nI s)) (96 + 9 * k) w2) := ⟨fx.tr fH, fun b b1 b2 b3 => by rw [sH_lo (by omega), stI_n (by omega)], fun j hj => by rw [sH_lo (by omega), stI_e, if_neg hj]⟩
    have ob : (sH (stI σ 38 2 (nI s)) (96 + 9 * k) w2).1 86 = σ.1 86 := by rw [sH_lo (by omega), stI_n (by omega)]
    have gb : ∀ c, c < 9 → gH (sH (stI σ 38 2 (nI s)) (96 + 9 * k) w2) (96 + 9 * k) c = w2 c := fun c hc => sH_in hc
    generalize hσb : sH (stI σ 38 2 (nI s)) (96 + 9 * k) w2 = σb at *
    have web : WE w2 (gH σb (96 + 9 * k)) := ⟨fun c _ _ j _ => by rw [gb c (by omega)], by rw [gb 0 (by omega)], by rw [gb 0 (by omega)], by rw [gb 0 (by omega)]⟩
    have hb := h_beginAs (σ := σb) (a := 96 + 9 * (k + 1)) (b := 96 + 9 * k) (x := gH σb (96 + 9 * (k + 1))) (y := gH σb (96 + 9 * k)) (by omega) (fun c hc => rfl)
    rw [sH_gH] at hb
    have we3 : WE (gH σb (96 + 9 * k)) (wBeg (gH σb (96 + 9 * (k + 1))) (gH σb (96 + 9 * k))) := wBeg_e
    generalize wBeg (gH σb (96 + 9 * (k + 1))) (gH σb (96 + 9 * k)) = w3 at hb we3
    -- a child of a state that keeps the hall
    have child : ∀ (σx : LH) (w : Wd) (sx : Nat), OFk k σ σx → WE (gH σx (96 + 9 * k)) w → WE w2 (gH σx (96 + 9 * k)) → sx < 1024 → Ag τ0 n0 mm Z (nI s) (nI sx) → (∀ d, k + 1 ≤ d → d < C → sx.testBit (cm d) = false) → CHk L σ0 τ0 S P n0 n E mm M T C go who cm lv whr (k + 1) sx Z (sH σx (96 + 9 * (k + 1)) w) ∧ OFk k σ (sH σx (96 + 9 * (k + 1)) w) := by
      intro σx w sx ox wx wy hsx hag hbits
      have fw : FR bcC σx (sH σx (96 + 9 * (k + 1)) w) := FR.bH (by omega) (by omega)
      have ow : OFk k σ (sH σx (96 + 9 * (k + 1)) w) := ox.tr ⟨fw, fun b b1 b2 b3 => sH_lo (by omega), fun j hj => by rw [sH_lo (by omega)]⟩
      have eg : ∀ c, c < 9 → gH (sH σx (96 + 9 * (k + 1)) w) (96 + 9 * (k + 1)) c = w c := fun c hc => sH_in hc
      refine ⟨⟨f1.tr ow.1, by rw [ow.2.2 3 (by omega)]; exact h3, ⟨by rw [ow.2.1 81 (by omega) (by omega) (by omega)]; exact l1, fun d hd => by rw [ow.2.1 85 (by omega) (by omega) (by omega)]; exact l2 d hd⟩, ⟨by rw [ow.2.1 81 (by omega) (by omega) (by omega)]; exact t1, fun i hi => by rw [ow.2.1 83 (by omega) (by omega) (by omega), ow.2.1 84 (by omega) (by omega) (by omega)]; exact t2 i hi⟩, hsx, ⟨by omega, by omega⟩, ?_, fun d b1 b2 => ⟨?_, hbits d b1 b2⟩⟩, ow⟩
      · exact (((r2.we wy hS8 hP8).we wx hS8 hP8).we ⟨fun c _ _ j _ => by rw [eg c (by omega)], by rw [eg 0 (by omega)], by rw [eg 0 (by omega)], by rw [eg 0 (by omega)]⟩ hS8 hP8).set hag
      · rcases hQ.2.1 k d (by omega) b2 with w | w
        · omega
        · omega
    obtain ⟨ch1, oc⟩ := child σb w3 s o1 we3 web hs Ag.rf (fun d b1 b2 => (hD d (by omega) b2).2)
    obtain ⟨σd, i1, i2, i3, i4⟩ := ih (k + 1) fc s Z _ (by omega) (by omega) ch1
    have od : OFk k σ σd := oc.tr (i2.lo (by omega))
    have gd : ∀ c, c < 9 → gH σd (96 + 9 * k) c = gH σb (96 + 9 * k) c := fun c hc => by
      show σd.1 (96 + 9 * k + c) = σb.1 (96 + 9 * k + c)
      rw [i2.2.1 (96 + 9 * k + c) (by omega) (by omega) (by omega), sH_lo (by omega)]
    have wed : WE w2 (gH σd (96 + 9 * k)) := ⟨fun c _ _ j _ => by rw [gd c (by omega), gb c (by omega)], by rw [gd 0 (by omega), gb 0 (by omega)], by rw [gd 0 (by omega), gb 0 (by omega)], by rw [gd 0 (by omega), gb 0 (by omega)]⟩
    have hb2 := h_beginAs (σ := σd) (a := 96 + 9 * (k + 1)) (b := 96 + 9 * k) (x := gH σd (96 + 9 * (k + 1))) (y := gH σd (96 + 9 * k)) (by omega) (fun c hc => rfl)
    rw [sH_gH] at hb2
    have we4 : WE (gH σd (96 + 9 * k)) (wBeg (gH σd (96 + 9 * (k + 1))) (gH σd (96 + 9 * k))) := wBeg_e
    generalize wBeg (gH σd (96 + 9 * (k + 1))) (gH σd (96 + 9 * k)) = w4 at hb2 we4
    obtain ⟨-, bs2, bs3⟩ := bits_s hs (show cm k < 10 by omega)
    obtain ⟨ch2, oe⟩ := child σd w4 (s ||| 2 ^ cm k) od we4 wed bs3 (ag_add hn hl hs (by omega) (by omega) (by omega)) (fun d b1 b2 => by
      rw [tb_or, (hD d (by omega) b2).2, decide_eq_false (fun z => inj k d (by omega) b2 z.symm), Bool.or_false])
    obtain ⟨σf, j1, j2, j3, j4⟩ := ih (k + 1) fc (s ||| 2 ^ cm k) Z _ (by omega) (by omega) ch2
    have ec : (sH σb (96 + 9 * (k + 1)) w3).1 86 = σ.1 86 := by rw [sH_lo (by omega), ob]
    have ee : (sH σd (96 + 9 * (k + 1)) w4).1 86 = σd.1 86 := sH_lo (by omega)
    refine ⟨σf, ?_, oe.tr (j2.lo (by omega)), fun s' hs' => ?_, fun s' hs' => ?_⟩
    · rw [s_Branches_choose]
      unfold s_Branches_choose_b
      have x13 : σ.1 13 (cm k) = nI (lv (cm k)) := by rw [f1.br2 (b := 13) (fun j => by unfold bcC scC; omega)]; exact h13 (cm k) c1
      have x85 : (sH σd (96 + 9 * (k + 1)) w4).1 85 k = nI (cm k) := ch2.2.2.1.2 k (by omega)
      rw [if_neg (show ¬ nI k < 0 from Int32.not_lt.mpr (nI_le (show 0 ≤ k by omega) (by omega) : nI 0 ≤ nI k)), if_neg (show ¬ (11 : Int32) ≤ nI k from nI_ge (b := 11) (by omega) (by omega)), if_neg (show ¬ nI s < 0 from Int32.not_lt.mpr (nI_le (show 0 ≤ s by omega) (by omega) : nI 0 ≤ nI s)), if_pos (show nI s < 1024 from (nI_ltI (a := s) (b := 1024) (by omega) (by omega)).mpr hs), if_pos (ib_nI (by omega) (by omega)), nI_clamp (show k < 2 ^ 31 by omega), xl_so, l1, if_neg (nI_ge (by omega) (by omega)), if_pos (show nI k < 10 from (nI_ltI (a := k) (b := 10) (by omega) (by omega)).mpr (by omega)), if_pos (ib_nI (by omega) (by omega)), l2 k (by omega), if_pos (ib_nI (show cm k < 10 by omega) (by omega)), nI_clamp (show cm k < 2 ^ 31 by omega), x13, xl_so, xl_so, r1, xb1_so, nI_1, if_pos (ib_nI (by omega) (by omega)), nI_clamp (show k + 1 < 2 ^ 31 by omega), xl_so, hb, xb1_so, i1, xb1_so, if_pos (ib_nI (by omega) (by omega)), xl_so, hb2, xb1_so, if_pos (ib_nI (by omega) (by omega)), x85, bs2, j1, xb1_so]
    · by_cases q : s'.testBit (cm k) = true
      · exact j3 s' (hs'.t q)
      · obtain ⟨b, b1, b2⟩ := i3 s' (hs'.f d2 (by simpa using q))
        refine ⟨b, b1, ?_⟩
        rw [j4 s' (fun z => q (z.bt (by omega) (fun d w1 w2 => inj k d w1 w2))), ee]
        exact b2
    · rw [j4 s' (fun z => hs' (z.ut (by omega))), ee, i4 s' (fun z => hs' z.uf), ec]
end
