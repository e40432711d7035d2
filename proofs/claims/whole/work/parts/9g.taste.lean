/-! taste: other likings, the same room -/
/-- what else holds, when likings are laid out anew; when one more is told -/
def Vren (V : LH → LH → Prop) : Prop := ∀ (σ σ' τ τ' : LH) (n : Nat), V σ τ → σ.1 33 5 = nI n → n + 1 < 2 ^ 20 → σ'.1 33 5 = nI (n + 1) → σ'.1 81 15 = σ.1 81 15 → V σ' τ'
def Vtel (V : LH → LH → Prop) : Prop := ∀ (σ σ' τ τ' : LH) (t : Nat), V σ τ → σ.1 81 10 = nI t → t < 8 → σ'.1 81 10 = nI (t + 1) → (∀ b, b ≠ 81 → b ≠ 83 → b ≠ 84 → σ'.1 b = σ.1 b) → (∀ j, j ≠ 10 → σ'.1 81 j = σ.1 81 j) → (∀ b, b ≠ 570 → b ≠ 595 → b ≠ 596 → τ'.1 b = τ.1 b) → (∀ j, j ≠ 0 → j ≠ 57 → τ'.1 570 j = τ.1 570 j) → V σ' τ'
section
variable {V : LH → LH → Prop} {σ τ σ' τ' : LH} {S P F E n0 n cnt mm M k N c c' eN : Nat} {wn mn xn qn sn go : Nat → Nat} {held held' : Option Nat} {Bt : Nat → Nat → Nat} {le : Nat → Nat} {CLs : Nat → CL} {ln : Nat → Nat → Nat → Nat} {w : Wd} {A : Nat → Int32} {f g : Option (Int32 × LH)}
theorem SOK.up (h : SOK σ S P n w) : SOK σ' S P (n + 1) w := by
  rcases h with z | ⟨n', r', h1, h2, h3, -⟩
  · exact Or.inl z
  · exact Or.inr ⟨n', r', by omega, h2, h3, fun z => by omega⟩
theorem HR.nup (h : HR σ S P n mm M w A) : HR σ' S P (n + 1) mm M w A := ⟨h.1, h.2.1, h.2.2.1.up, h.2.2.2⟩
theorem HL.up (h : HL σ S P n eN w A) : HL σ' S P (n + 1) eN w A := by
  obtain ⟨mm, M, h1, h2, h3, h4⟩ := h
  exact ⟨mm, M, h1, h2, h3.nup, h4⟩
theorem AL.mono (h : AL V c f g) (hc : c ≤ c') : AL V c' f g := by
  obtain ⟨r, σ', τ', a1, a2, S, P, F, E, n0, n, cnt, mm, M, k, N, wn, mn, xn, qn, sn, go, held, Bt, le, CLs, ln, h, hn⟩ := h
  exact ⟨r, σ', τ', a1, a2, S, P, F, E, n0, n, cnt, mm, M, k, N, wn, mn, xn, qn, sn, go, held, Bt, le, CLs, ln, h, by omega⟩
theorem Lf_n (F : Nat) (wn mn xn qn : Nat → Nat) (held : Option Nat) (CLs : Nat → CL) : ∃ ln : Nat → Nat → Nat → Nat, ∀ m p s, Lf F wn mn xn qn held CLs m p s = nI (ln m p s) ∧ ln m p s < 1000 := by
  refine ⟨fun m p s => (Lf F wn mn xn qn held CLs m p s).toNatClampNeg, fun m p s => ?_⟩
  have : ∃ k, k < 1000 ∧ Lf F wn mn xn qn held CLs m p s = nI k := by
    unfold Lf Lh
    cases held with
    | none => exact cl9_n _
    | some h => exact cl9_n _
  obtain ⟨k, k1, k2⟩ := this
  simp only
  rw [k2, nI_clamp (by omega)]
  exact ⟨rfl, k1⟩
/-- the room, as the likings are laid out from it -/
theorem NVp.rc (h : NVp V σ τ S P F E n0 n cnt mm M k N wn mn xn qn sn go held Bt le CLs ln) : RC σ S P F wn mn xn qn := by
  obtain ⟨C, -, X, -⟩ := h.1.1
  have mi := h.1.it
  obtain ⟨o1, o2, -, o4, -⟩ := h.2.2.2
  exact ⟨C.1, C.2.1, C.2.2.1, C.2.2.2.1, o2, o1.2.2.1, fun s hs => ⟨(X.1 s hs).trans (mi.2.1 s hs).1, (o4 s hs).trans (mi.2.1 s hs).2.1, (X.2.1 s hs).trans (mi.2.1 s hs).2.2⟩, fun p hp => (X.2.2.1 p hp).trans (mi.2.2.1 p hp)⟩
theorem NVp.tas (h : NVp V σ τ S P F E n0 n cnt mm M k N wn mn xn qn sn go held Bt le CLs ln) (hr : Vren V) (hn1 : n + 1 < 2 ^ 20) (hh : ∀ t, held' = some t → t < cnt)
    (a1 : ∀ b, (b < 33 ∨ 38 ≤ b) → b ≠ 1 → (b < 195 ∨ 210 ≤ b) → σ'.1 b = σ.1 b) (a2 : ∀ j, j ≠ 7 → σ'.1 1 j = σ.1 1 j) (a3 : ∀ t, t < cnt → σ'.1 (195 + 3 * t) = σ.1 (195 + 3 * t) ∧ σ'.1 (195 + 3 * t + 1) = σ.1 (195 + 3 * t + 1)) (a4 : σ'.1 1 7 = oI held') (a5 : σ'.1 33 5 = nI (n + 1)) (a6 : LT σ' S P E (Lf F wn mn xn qn held' CLs))
    (b1 : ∀ b, b ≠ 570 → τ'.1 b = τ.1 b) (b2 : ∀ j, j ≠ 0 → j ≠ 35 → τ'.1 570 j = τ.1 570 j) (b3 : τ'.1 570 35 = oI held') (b4 : τ'.2 = τ.2) : ∃ ln', NVp V σ' τ' S P F E n0 (n + 1) cnt mm M k N wn mn xn qn sn go held' Bt le CLs ln' := by
  obtain ⟨⟨⟨C, G, X, hGL, hEL, hq, hs, hT, hl, hn⟩, T, hH, x4, x5, x6, x7, x8, x9, x10, x11, ⟨i1, i2, i3, i4, i5, i6⟩⟩, hG, ⟨p1, p2, p3, p4, p5, p6⟩, ⟨m1, m2, m3, m4, m5, m6, m7, m8⟩, o2, o3, o4, o5, ⟨o61, o62, o63⟩, o7, ⟨u, u1, u2, u3⟩, o9, o10, o11⟩ := h
  obtain ⟨ln', hln⟩ := Lf_n F wn mn xn qn held' CLs
  have s : ∀ b, (b < 33 ∨ 38 ≤ b) → b ≠ 1 → (b < 195 ∨ 210 ≤ b) → σ'.1 b = σ.1 b := a1
  have eg : ∀ h', (h' = 39 ∨ h' = 49 ∨ 210 ≤ h') → ∀ c, c < 9 → gH σ' h' c = gH σ h' c := fun h' hb c hc => a1 (h' + c) (by omega) (by omega) (by omega)
  have we : ∀ h', (h' = 39 ∨ h' = 49 ∨ 210 ≤ h') → WE (gH σ h') (gH σ' h') := fun h' hb => ⟨fun c _ _ j _ => by rw [eg h' hb c (by omega)], by rw [eg h' hb 0 (by omega)], by rw [eg h' hb 0 (by omega)], by rw [eg h' hb 0 (by omega)]⟩
  have e83 : τ'.1 583 = τ.1 583 := b1 583 (by omega)
  have cC : CFix σ' S P n0 go none (n + 1) := by
    obtain ⟨c1, c2, c3, c4, c5, c6, c7, c8, c9, c10⟩ := C
    refine ⟨?_, c2, ?_, c4, ?_, c6, ?_, ?_, c9, a5⟩
    · rw [s 4 (by omega) (by omega) (by omega)]; exact c1
    · rw [s 4 (by omega) (by omega) (by omega)]; exact c3
    · rw [s 4 (by omega) (by omega) (by omega)]; exact c5
    · rw [s 12 (by omega) (by omega) (by omega)]; exact c7
    · rw [s 38 (by omega) (by omega) (by omega)]; exact c8
  have mG : MGo τ' S P n0 0 go (fun _ => 0) := by
    unfold MGo MRng at G ⊢
    rw [b2 26 (by omega) (by omega), b2 27 (by omega) (by omega), b2 28 (by omega) (by omega), b2 40 (by omega) (by omega), b1 579 (by omega), b1 587 (by omega)]
    show _ ∧ _ ∧ _ ∧ _ ∧ _ ∧ _ ∧ _ ∧ _ ∧ _ ∧ _ ∧ sml (fun p => τ'.1 577 (4 * p + 1)) P ∧ sml (fun s => τ'.1 575 (3 * s + 2)) S
    rw [b1 577 (by omega), b1 575 (by omega)]
    exact G
  have fX : FX σ' τ' S P := by
    unfold FX at X ⊢
    show (∀ s, s < S → σ'.1 5 s = τ'.1 575 (3 * s)) ∧ (∀ s, s < S → σ'.1 7 s = τ'.1 575 (3 * s + 2)) ∧ (∀ p, p < P → σ'.1 9 p = τ'.1 577 (4 * p + 1)) ∧ (∀ p, p < P → σ'.1 10 p = τ'.1 577 (4 * p + 2))
    rw [s 5 (by omega) (by omega) (by omega), s 7 (by omega) (by omega) (by omega), s 9 (by omega) (by omega) (by omega), s 10 (by omega) (by omega) (by omega), b1 577 (by omega), b1 575 (by omega)]
    exact X
  refine ⟨ln', ⟨⟨cC, mG, fX, ?_, ?_, ?_, ?_, a6.2, fun m _ p s _ _ => hln m p s, hn1⟩, a6.1, ?_, ?_, ?_, x6, x7, x8, x9, x10, ⟨?_, ?_, ?_, ?_⟩, ⟨fun i hi => ?_, fun s' hs' => ?_, fun p hp => ?_, ?_, b3, fun t ht => ?_⟩⟩, ?_, ⟨?_, ?_, ?_, p4, p5, fun i hi => ?_⟩, ⟨m1, m2, m3, m4, m5, m6, hh, m8⟩, ?_, o3, fun s' hs' => ?_, ?_, ⟨?_, ?_, fun t ht => ?_⟩, a4, ⟨u, u1, ?_, ?_⟩, ?_, ?_, hr σ σ' τ τ' n o11 C.2.2.2.2.2.2.2.2.2 hn1 a5 (by rw [s 81 (by omega) (by omega) (by omega)])⟩
  · unfold GL at hGL ⊢
    rw [s 13 (by omega) (by omega) (by omega), s 14 (by omega) (by omega) (by omega), s 38 (by omega) (by omega) (by omega), b1 579 (by omega), b2 39 (by omega) (by omega)]
    exact hGL
  · unfold EL at hEL ⊢
    rw [s 38 (by omega) (by omega) (by omega), b1 588 (by omega), b1 589 (by omega)]
    exact hEL
  · show ∀ p, p < P → τ'.1 577 (4 * p + 1) = nI (qn p) ∧ qn p < 10
    rw [b1 577 (by omega)]
    exact hq
  · show ∀ p, p < P → τ'.1 577 (4 * p + 2) = nI (sn p) ∧ 1 ≤ sn p ∧ sn p < 1000
    rw [b1 577 (by omega)]
    exact hs
  · rw [e83]
    exact (hH.nup (σ' := σ')).cp (we 39 (by omega)) m1 m2 (fun _ _ => rfl)
  · rw [s 4 (by omega) (by omega) (by omega)]; exact x4
  · rw [b1 581 (by omega)]; exact x5
  · rw [s 38 (by omega) (by omega) (by omega)]; exact x11.1
  · rw [s 38 (by omega) (by omega) (by omega)]; exact x11.2.1
  · rw [b2 39 (by omega) (by omega)]; exact x11.2.2.1
  · rw [b2 40 (by omega) (by omega)]; exact x11.2.2.2
  · rw [b4, b1 586 (by omega)]; exact i1 i hi
  · rw [b1 575 (by omega)]; exact i2 s' hs'
  · rw [b1 577 (by omega)]; exact i3 p hp
  · rw [b1 581 (by omega)]; exact i4
  · rw [b1 573 (by omega)]
    obtain ⟨z1, z2, z3⟩ := i6 t ht
    exact ⟨z1, z2, fun j hj => by rw [b1 572 (by omega)]; exact z3 j hj⟩
  · rw [e83]
    exact hG.cp (we 39 (by omega)).2.2.1 (fun j _ => by rw [eg 39 (by omega) 8 (by omega)]) (fun _ _ _ => rfl)
  · rw [a2 13 (by omega)]; exact p1
  · rw [a2 14 (by omega)]; exact p2
  · rw [b2 46 (by omega) (by omega)]; exact p3
  · have old := (p6 i hi).up (σ' := σ')
    generalize (N + 40 - i) % 40 = x at old ⊢
    exact old.cp m1 m2 (fun _ _ => rfl) (we (210 + 9 * x) (by omega)) (fun j _ => by rw [eg (210 + 9 * x) (by omega) 8 (by omega)]) (fun j _ => by rw [b1 590 (by omega)])
  · rw [s 4 (by omega) (by omega) (by omega)]; exact o2
  · rw [s 6 (by omega) (by omega) (by omega), b1 575 (by omega)]; exact o4 s' hs'
  · unfold TPE at o5 ⊢
    rw [s 2 (by omega) (by omega) (by omega), s 3 (by omega) (by omega) (by omega), b1 571 (by omega), b2 6 (by omega) (by omega)]
    exact o5
  · rw [a2 6 (by omega)]; exact o61
  · rw [b2 7 (by omega) (by omega)]; exact o62
  · have z := o63 t ht
    unfold TasteC at z ⊢
    rw [(a3 t ht).1, (a3 t ht).2]
    exact z
  · rw [a2 8 (by omega)]; exact u2
  · rw [b2 36 (by omega) (by omega)]; exact u3
  · unfold TLD at o9 ⊢
    rw [s 81 (by omega) (by omega) (by omega), s 83 (by omega) (by omega) (by omega), s 84 (by omega) (by omega) (by omega), b1 595 (by omega), b1 596 (by omega), b2 57 (by omega) (by omega)]
    exact o9
  · unfold PIC at o10 ⊢
    rw [a2 16 (by omega), b2 59 (by omega) (by omega), b1 597 (by omega)]
    rcases o10 with z | ⟨z1, z2, z3⟩
    · exact Or.inl z
    · exact Or.inr ⟨z1, z2, (z3.up (σ' := σ')).cp m1 m2 (fun _ _ => rfl) (we 49 (by omega)) (fun j _ => by rw [eg 49 (by omega) 8 (by omega)]) (fun _ _ => rfl)⟩
end
