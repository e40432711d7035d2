/-! text -/
section
variable {V : LH → LH → Prop} {σ τ σ' τ' : LH} {S P F E n0 n cnt mm M k N c T : Nat} {wn mn xn qn sn go : Nat → Nat} {held : Option Nat} {Bt : Nat → Nat → Nat} {le : Nat → Nat} {CLs : Nat → CL} {ln : Nat → Nat → Nat → Nat} {R : RM} {w : Wd} {B : Nat → Nat} {cl : CL} {p0 : Int32} {G : Nat → Int32}
theorem cp56 (hc : cnt < 4) (hT : T ≤ 240) (hB : ∀ i, i < T → B i < 256) : ∀ (m n y : Nat) (τ : LH), y + m = T → m < n → (∀ i, i < T → τ.1 571 i = sx (B i)) → τ.1 570 7 = nI cnt → ∃ G : Nat → Int32, (∀ j, j < 240 * cnt + y → G j = τ.1 572 j) ∧ (∀ i, y ≤ i → i < T → G (240 * cnt + i) = sx (B i)) ∧ s_Model_text_56 p0 n (nI T) (nI y) τ = some (nI cnt, stI (stI (stF τ 572 G) 573 cnt (nI T)) 570 7 (nI (cnt + 1))) := by
  intro m
  induction m with
  | zero =>
    intro n y τ hy hn hb h7
    obtain ⟨n, rfl⟩ : ∃ q, n = q + 1 := ⟨n - 1, by omega⟩
    refine ⟨τ.1 572, fun _ _ => rfl, fun j h1 h2 => by omega, ?_⟩
    rw [s_Model_text_56, stF_id]
    unfold s_Model_text_56_b
    rw [if_pos (nI_le (by omega) (by omega)), h7, if_pos (ib_nI hc (by omega)), nI_clamp (show cnt < 2 ^ 31 by omega)]
    simp only [xl]
    rw [stI_n (b := 570) (a := 573) (by omega), h7, nI_1, stI_570, if_pos rfl, nI_pred]
  | succ m ih =>
    intro n y τ hy hn hb h7
    obtain ⟨n, rfl⟩ : ∃ q, n = q + 1 := ⟨n - 1, by omega⟩
    obtain ⟨G, f1, f2, f3⟩ := ih n (y + 1) (stI τ 572 (240 * cnt + y) (sx (B y))) (by omega) (by omega) (fun i hi => by rw [stI_n (by omega)]; exact hb i hi) (by rw [stI_n (by omega)]; exact h7)
    refine ⟨G, fun j hj => ?_, fun i h1 h2 => ?_, ?_⟩
    · rw [f1 j (by omega), stI_e, if_neg (by omega)]
    · by_cases q : i = y
      · rw [q, f1 _ (by omega), stI_e, if_pos rfl]
      · exact f2 i (by omega) h2
    · have ev : vp_nar .byte (sx (B y)) = sx (B y) := pk_vb _
      rw [s_Model_text_56]
      unfold s_Model_text_56_b
      rw [if_neg (nI_ge (by omega) (by omega)), if_pos (ib_nI (show y < 240 by omega) (by omega)), h7, show (240 : Int32) = nI 240 from rfl, pk_mul, nI_add, if_pos (ib_nI (show 240 * cnt + y < 960 by omega) (by omega)), nI_clamp (show 240 * cnt + y < 2 ^ 31 by omega), nI_clamp (show y < 2 ^ 31 by omega), hb y (by omega), ev]
      simp only [xl]
      rw [nI_1, f3, stF_stI]
/-- a taste more -/
theorem NVp.addT (h : NVp V σ τ S P F E n0 n cnt mm M k N wn mn xn qn sn go held Bt le CLs ln) (hV : Vcl V) (hc : cnt < 4) (hT : T ≤ 240) (hB : ∀ i, i < T → 1 ≤ B i ∧ B i < 256) (hcl : pAll B T (T + 1) 0 [] = .inr cl) (hTC : TasteC σ (195 + 3 * cnt) cl)
    (ec : ∀ b, b ≠ 1 → b ≠ 2 → σ'.1 b = σ.1 b) (ec1 : ∀ j, j ≠ 6 → σ'.1 1 j = σ.1 1 j) (e16 : σ'.1 1 6 = nI (cnt + 1)) (e21 : σ'.1 2 1 = 0)
    (em : ∀ b, b ≠ 570 → b ≠ 572 → b ≠ 573 → τ'.1 b = τ.1 b) (em1 : ∀ j, j ≠ 6 → j ≠ 7 → τ'.1 570 j = τ.1 570 j) (m6 : τ'.1 570 6 = 0) (m7 : τ'.1 570 7 = nI (cnt + 1)) (m72 : ∀ j, j < 240 * cnt → τ'.1 572 j = τ.1 572 j) (m72b : ∀ i, i < T → τ'.1 572 (240 * cnt + i) = sx (B i)) (m73 : ∀ t, τ'.1 573 t = if t = cnt then nI T else τ.1 573 t) (m2 : τ'.2 = τ.2) :
    NVp V σ' τ' S P F E n0 n (cnt + 1) mm M k N wn mn xn qn sn go held (fun t => if t = cnt then B else Bt t) (fun t => if t = cnt then T else le t) (fun t => if t = cnt then cl else CLs t) ln := by
  obtain ⟨⟨K, TLs, hH, x4, x5, x6, x7, x8, x9, x10, x11, ⟨i1, i2, i3, i4, i5, i6⟩⟩, hG, ⟨p1, p2, p3, p4, p5, p6⟩, ⟨k1, k2, k3, k4, k5, k6, k7, k8⟩, o2, o3, o4, o5, ⟨o61, o62, o63⟩, o7, ⟨u, u1, u2, u3⟩, o9, o10, o11⟩ := h
  have eL : Lf F wn mn xn qn held (fun t => if t = cnt then cl else CLs t) = Lf F wn mn xn qn held CLs := by
    funext m p s
    unfold Lf Lh
    cases held with
    | none => rfl
    | some h =>
      have := k7 h rfl
      simp only
      rw [if_neg (show ¬ h = cnt by omega)]
  have eg : ∀ h', 4 ≤ h' → ∀ c, gH σ' h' c = gH σ h' c := fun h' hb c => ec (h' + c) (by omega) (by omega)
  have eg' : ∀ h', 4 ≤ h' → gH σ' h' = gH σ h' := fun h' hb => funext fun c => eg h' hb c
  have lo : ∀ b, b = 5 ∨ b = 7 ∨ b = 9 ∨ b = 10 ∨ b = 34 → σ'.1 b = σ.1 b := fun b hb => ec b (by omega) (by omega)
  have e83 : τ'.1 583 = τ.1 583 := em 583 (by omega) (by omega) (by omega)
  unfold NVp
  rw [eL]
  refine ⟨⟨K.cg (fun b hb => ec b (by omega) (by omega)) ⟨fun b hb => em b (by omega) (by omega) (by omega), fun j hj => em1 j (by omega) (by omega)⟩, ?_, ?_, ?_, ?_, x6, x7, x8, x9, x10, ⟨?_, ?_, ?_, ?_⟩, ⟨fun i hi => ?_, fun s hs => ?_, fun p hp => ?_, ?_, ?_, fun t ht => ?_⟩⟩, ?_, ⟨?_, ?_, ?_, p4, p5, fun i hi => ?_⟩, ⟨k1, k2, k3, by omega, k5, k6, fun h hh => by have := k7 h hh; omega, fun t ht => ?_⟩, ?_, ⟨o3.1, fun t ht => ?_⟩, fun s hs => ?_, ⟨0, e21, m6, by omega, fun i hi => by omega⟩, ⟨e16, m7, fun t ht => ?_⟩, ?_, ⟨u, u1, ?_, ?_⟩, ?_, ?_, ?_⟩
  · unfold TL at TLs ⊢
    rw [ec 35 (by omega) (by omega), ec 36 (by omega) (by omega)]
    exact TLs
  · rw [eg' 39 (by omega), e83]
    exact hH.s lo
  · rw [ec 4 (by omega) (by omega)]; exact x4
  · rw [em 581 (by omega) (by omega) (by omega)]; exact x5
  · rw [ec 38 (by omega) (by omega)]; exact x11.1
  · rw [ec 38 (by omega) (by omega)]; exact x11.2.1
  · rw [em1 39 (by omega) (by omega)]; exact x11.2.2.1
  · rw [em1 40 (by omega) (by omega)]; exact x11.2.2.2
  · rw [m2, em 586 (by omega) (by omega) (by omega)]
    rcases i1 i hi with z | ⟨w, f, x, q, m, p, t, z1, z2, z3, z4, z5, z6, z7, z8, z9⟩
    · exact Or.inl z
    · refine Or.inr ⟨w, f, x, q, m, p, t, z1, z2, z3, z4, z5, z6, by omega, z8, ?_⟩
      simp only
      rw [if_neg (show ¬ t = cnt by omega)]
      exact z9
  · rw [em 575 (by omega) (by omega) (by omega)]; exact i2 s hs
  · rw [em 577 (by omega) (by omega) (by omega)]; exact i3 p hp
  · rw [em 581 (by omega) (by omega) (by omega)]; exact i4
  · rw [em1 35 (by omega) (by omega)]; exact i5
  · simp only
    rw [m73]
    by_cases z : t = cnt
    · rw [if_pos z, if_pos z, if_pos z]
      refine ⟨rfl, Or.inr ⟨rfl, by omega⟩, fun i hi => ?_⟩
      rw [z]
      exact ⟨m72b i hi, hB i hi⟩
    · rw [if_neg z, if_neg z, if_neg z]
      obtain ⟨y1, y2, y3⟩ := i6 t (by omega)
      have yle := o3.2 t (by omega)
      refine ⟨y1, y2, fun i hi => ?_⟩
      rw [m72 _ (by omega)]
      exact y3 i hi
  · rw [eg' 39 (by omega), e83]
    exact hG
  · rw [ec1 13 (by omega)]; exact p1
  · rw [ec1 14 (by omega)]; exact p2
  · rw [em1 46 (by omega) (by omega)]; exact p3
  · have old := p6 i hi
    generalize (N + 40 - i) % 40 = x at old ⊢
    rw [eg' (210 + 9 * x) (by omega)]
    exact old.cp k1 k2 lo ⟨fun _ _ _ _ _ => rfl, rfl, rfl, rfl⟩ (fun _ _ => rfl) (fun j _ => by rw [em 590 (by omega) (by omega) (by omega)])
  · simp only
    by_cases z : t = cnt
    · rw [if_pos z, if_pos z, if_pos z]; exact hcl
    · rw [if_neg z, if_neg z, if_neg z]; exact k8 t (by omega)
  · rw [ec 4 (by omega) (by omega)]; exact o2
  · simp only
    by_cases z : t = cnt
    · rw [if_pos z]; exact hT
    · rw [if_neg z]; exact o3.2 t (by omega)
  · rw [ec 6 (by omega) (by omega), em 575 (by omega) (by omega) (by omega)]; exact o4 s hs
  · simp only
    have ct : ∀ x, TasteC σ (195 + 3 * t) x → TasteC σ' (195 + 3 * t) x := fun x z => by
      unfold TasteC at z ⊢
      rw [ec (195 + 3 * t) (by omega) (by omega), ec (195 + 3 * t + 1) (by omega) (by omega)]
      exact z
    by_cases z : t = cnt
    · rw [if_pos z]
      exact ct _ (by rw [z]; exact hTC)
    · rw [if_neg z]
      exact ct _ (o63 t (by omega))
  · rw [ec1 7 (by omega)]; exact o7
  · rw [ec1 8 (by omega)]; exact u2
  · rw [em1 36 (by omega) (by omega)]; exact u3
  · unfold TLD at o9 ⊢
    rw [ec 81 (by omega) (by omega), ec 83 (by omega) (by omega), ec 84 (by omega) (by omega), em 595 (by omega) (by omega) (by omega), em 596 (by omega) (by omega) (by omega), em1 57 (by omega) (by omega)]
    exact o9
  · unfold PIC at o10 ⊢
    rw [ec1 16 (by omega), em1 59 (by omega) (by omega), em 597 (by omega) (by omega) (by omega), eg' 49 (by omega)]
    rcases o10 with z | ⟨z1, z2, z3⟩
    · exact Or.inl z
    · exact Or.inr ⟨z1, z2, z3.cp k1 k2 lo ⟨fun _ _ _ _ _ => rfl, rfl, rfl, rfl⟩ (fun _ _ => rfl) (fun _ _ => rfl)⟩
  · refine hV σ σ' τ τ' o11 (fun b j z => ?_) (fun b j z => ?_)
    · have z1 : ¬ (b = 1 ∨ b = 2) := fun y => z (by unfold vC; omega)
      exact congrFun (ec b (by omega) (by omega)) j
    · have z1 : ¬ (b = 572 ∨ b = 573 ∨ (b = 570 ∧ (j = 6 ∨ j = 7))) := fun y => z (by unfold vM; omega)
      by_cases e : b = 570
      · subst e
        exact em1 j (by omega) (by omega)
      · exact congrFun (em b e (by omega) (by omega)) j
end
