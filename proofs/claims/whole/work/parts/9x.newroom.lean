/-! text: a room taken over; a taste put by -/
section
variable {V : LH → LH → Prop} {σ τ σ' τ' : LH} {S P F E n0 n cnt mm M k N c : Nat} {wn mn xn qn sn go : Nat → Nat} {held : Option Nat} {Bt : Nat → Nat → Nat} {le : Nat → Nat} {CLs : Nat → CL} {ln : Nat → Nat → Nat → Nat} {R : RM} {w : Wd}
theorem hap_all : ∀ g, g < 10 → (hbit 1023 g ↔ (((-1 : Int32) >>> (nI g &&& 31)) &&& 1) = 1) := by
  unfold hbit
  decide
theorem NVp.new (h : NVp V σ τ S P F E n0 n cnt mm M k N wn mn xn qn sn go held Bt le CLs ln) (hr : Vren V) (hn1 : n + 1 < 2 ^ 20) (hB : RB R) (hw : whR R = true)
    (a4 : CRm σ' 4 R) (a1 : ∀ j, j ≠ 13 → j ≠ 16 → σ'.1 1 j = σ.1 1 j) (a13 : σ'.1 1 13 = 0) (a16 : σ'.1 1 16 = 0) (a2 : σ'.1 2 1 = 0) (a38 : σ'.1 38 = σ.1 38) (a33 : σ'.1 33 5 = nI (n + 1)) (a81 : σ'.1 81 10 = 0) (a815 : σ'.1 81 15 = σ.1 81 15)
    (aT : ∀ t, t < cnt → σ'.1 (195 + 3 * t) = σ.1 (195 + 3 * t) ∧ σ'.1 (195 + 3 * t + 1) = σ.1 (195 + 3 * t + 1)) (a39 : ∀ c, c < 9 → gH σ' 39 c = w c) (hRw : Rw (R.1 0) (R.1 1) w (AAR (R.1 0) (fun p => R.2 1 p 0) (fun p => R.2 1 p 3) (R.1 1))) (w8 : w 0 8 = 0) (w10 : w 0 10 = -1) (aL : LT σ' (R.1 0) (R.1 1) (R.2 3 0 1) (Lf (R.2 3 0 0) (fun s => R.2 0 s 0) (fun s => R.2 0 s 1) (fun s => R.2 0 s 2) (fun p => R.2 1 p 1) held CLs))
    (b0 : ∀ j, j = 7 ∨ j = 35 ∨ j = 36 ∨ j = 39 ∨ j = 40 → τ'.1 570 j = τ.1 570 j) (b6 : τ'.1 570 6 = 0) (b46 : τ'.1 570 46 = 0) (b57 : τ'.1 570 57 = 0) (b59 : τ'.1 570 59 = 0) (b26 : τ'.1 570 26 = nI (R.1 0)) (b27 : τ'.1 570 27 = nI (R.1 1)) (b28 : τ'.1 570 28 = nI (R.1 2))
    (b75 : ∀ s i, s < R.1 0 → i < 3 → τ'.1 575 (3 * s + i) = nI (R.2 0 s i)) (b77 : ∀ s i, s < R.1 1 → i < 4 → τ'.1 577 (4 * s + i) = nI (R.2 1 s i)) (b79 : ∀ s i, s < R.1 2 → i < 3 → τ'.1 579 (3 * s + i) = nI (R.2 2 s i)) (b81 : ∀ i, i < 2 → τ'.1 581 i = nI (R.2 3 0 i))
    (b83 : ∀ j, j < 50 → ((∃ p, p < R.1 1 ∧ 4 * p ≤ j ∧ j < 4 * p + 4) ∨ 32 ≤ j) → τ'.1 583 j = AAR (R.1 0) (fun p => R.2 1 p 0) (fun p => R.2 1 p 3) (R.1 1) j) (bO : ∀ b, b = 572 ∨ b = 573 ∨ b = 586 → τ'.1 b = τ.1 b) (b5 : τ'.2.1 585 = τ.2.1 585) :
    ∃ ln', NVp V σ' τ' (R.1 0) (R.1 1) (R.2 3 0 0) (R.2 3 0 1) (R.1 2) (n + 1) cnt 0 0 0 N (fun s => R.2 0 s 0) (fun s => R.2 0 s 1) (fun s => R.2 0 s 2) (fun p => R.2 1 p 1) (fun p => R.2 1 p 2) (fun g => R.2 2 g 0) held Bt le CLs ln' := by
  obtain ⟨hw1, hw2, hw3, hw4⟩ := whR_iff.mp hw
  obtain ⟨⟨⟨C, G, X, hGL, hEL, hq, hs, hT, hl, hn⟩, T, hH, x4, x5, x6, x7, x8, x9, x10, x11, ⟨i1, i2, i3, i4, i5, i6⟩⟩, hG, ⟨p1, p2, p3, p4, p5, p6⟩, ⟨m1, m2, m3, m4, m5, m6, m7, m8⟩, o2, o3, o4, o5, ⟨o61, o62, o63⟩, o7, ⟨u, u1, u2, u3⟩, o9, o10, o11⟩ := h
  obtain ⟨c1, c2, c3, c4⟩ := a4
  have hS8 : R.1 0 ≤ 8 := (c1 0 (by omega)).2
  have hP8 : R.1 1 ≤ 8 := (c1 1 (by omega)).2
  have hG10 : R.1 2 ≤ 10 := (c1 2 (by omega)).2
  -- the bounds of what was told
  have bS : ∀ s, s < R.1 0 → R.2 0 s 0 ≤ 99 ∧ R.2 0 s 1 ≤ 99 ∧ R.2 0 s 2 ≤ 19 := fun s hs => ⟨(hB 0 (by omega) s (Or.inl hs) 0 (show 0 < 3 by omega)).2, (hB 0 (by omega) s (Or.inl hs) 1 (show 1 < 3 by omega)).2, (hB 0 (by omega) s (Or.inl hs) 2 (show 2 < 3 by omega)).2⟩
  have bP : ∀ p, p < R.1 1 → R.2 1 p 0 ≤ 8 ∧ R.2 1 p 1 ≤ 9 ∧ (1 ≤ R.2 1 p 2 ∧ R.2 1 p 2 ≤ 99) ∧ R.2 1 p 3 ≤ 9 := fun p hp => ⟨(hB 1 (by omega) p (Or.inl hp) 0 (show 0 < 4 by omega)).2, (hB 1 (by omega) p (Or.inl hp) 1 (show 1 < 4 by omega)).2, hB 1 (by omega) p (Or.inl hp) 2 (show 2 < 4 by omega), (hB 1 (by omega) p (Or.inl hp) 3 (show 3 < 4 by omega)).2⟩
  have bG : ∀ g, g < R.1 2 → R.2 2 g 1 ≤ 99 ∧ R.2 2 g 2 ≤ 9 := fun g hg => ⟨(hB 2 (by omega) g (Or.inl hg) 1 (show 1 < 3 by omega)).2, (hB 2 (by omega) g (Or.inl hg) 2 (show 2 < 3 by omega)).2⟩
  have bF : R.2 3 0 0 ≤ 99 := (hB 3 (by omega) 0 (Or.inr ⟨rfl, rfl⟩) 0 (show 0 < 2 by omega)).2
  have bE : R.2 3 0 1 ≤ 99 := (hB 3 (by omega) 0 (Or.inr ⟨rfl, rfl⟩) 1 (show 1 < 2 by omega)).2
  have q10 : ∀ p, p < R.1 1 → R.2 1 p 1 < 10 := fun p hp => by have := (bP p hp).2.1; omega
  have q1k : ∀ p, p < R.1 1 → R.2 1 p 2 < 1000 := fun p hp => by have := (bP p hp).2.2.1.2; omega
  have qS : ∀ s, s < R.1 0 → R.2 0 s 0 < 100 ∧ R.2 0 s 1 < 100 ∧ R.2 0 s 2 < 20 := fun s hs => by have := bS s hs; omega
  obtain ⟨ln', hln⟩ := Lf_n (R.2 3 0 0) (fun s => R.2 0 s 0) (fun s => R.2 0 s 1) (fun s => R.2 0 s 2) (fun p => R.2 1 p 1) held CLs
  have v5 : ∀ s, s < R.1 0 → σ'.1 5 s = nI (R.2 0 s 0) ∧ σ'.1 6 s = nI (R.2 0 s 1) ∧ σ'.1 7 s = nI (R.2 0 s 2) := fun s hs => ⟨c2 0 (by omega) s hs 0 (show 0 < 3 by omega), c2 0 (by omega) s hs 1 (show 1 < 3 by omega), c2 0 (by omega) s hs 2 (show 2 < 3 by omega)⟩
  have v9 : ∀ p, p < R.1 1 → σ'.1 9 p = nI (R.2 1 p 1) ∧ σ'.1 10 p = nI (R.2 1 p 2) := fun p hp => ⟨c2 1 (by omega) p hp 1 (show 1 < 4 by omega), c2 1 (by omega) p hp 2 (show 2 < 4 by omega)⟩
  have v12 : ∀ g, g < R.1 2 → σ'.1 12 g = nI (R.2 2 g 0) ∧ σ'.1 13 g = nI (R.2 2 g 1) ∧ σ'.1 14 g = nI (R.2 2 g 2) := fun g hg => ⟨c2 2 (by omega) g hg 0 (show 0 < 3 by omega), c2 2 (by omega) g hg 1 (show 1 < 3 by omega), c2 2 (by omega) g hg 2 (show 2 < 3 by omega)⟩
  obtain ⟨h38a, h38b, h39, h40⟩ := x11
  -- the world as it begins
  have A0 : ∀ p, p < R.1 1 → τ'.1 583 (4 * p) = if R.2 1 p 0 < R.1 0 then nI (R.2 1 p 0) else -1 := fun p hp => by
    rw [b83 _ (by omega) (Or.inl ⟨p, hp, by omega, by omega⟩), AAR_0 (by omega)]
    by_cases z : R.2 1 p 0 < R.1 0
    · rw [if_pos z, if_pos ⟨hp, z⟩]
    · rw [if_neg z, if_neg (fun y => z y.2)]
  have A1 : ∀ p, p < R.1 1 → τ'.1 583 (4 * p + 1) = -1 := fun p hp => by rw [b83 _ (by omega) (Or.inl ⟨p, hp, by omega, by omega⟩), AAR_1 (by omega)]
  have A2 : ∀ p, p < R.1 1 → τ'.1 583 (4 * p + 2) = nI (R.2 1 p 3) := fun p hp => by rw [b83 _ (by omega) (Or.inl ⟨p, hp, by omega, by omega⟩), AAR_2 (by omega)]
  have As : ∀ j, 32 ≤ j → j < 48 → τ'.1 583 j = -1 := fun j h1 h2 => by rw [b83 j (by omega) (Or.inr h1), AAR_s h1 h2]
  have Am : ∀ j, 48 ≤ j → j < 50 → τ'.1 583 j = 0 := fun j h1 h2 => by rw [b83 j (by omega) (Or.inr (by omega)), AAR_m h1]
  have plcA : ∀ p, p < R.1 1 → plc (R.1 0) (τ'.1 583 (4 * p)) ∧ τ'.1 583 (4 * p) ≠ -2 := fun p hp => by
    rw [A0 p hp]
    by_cases z : R.2 1 p 0 < R.1 0
    · rw [if_pos z]
      exact ⟨Or.inr (Or.inr ⟨_, z, rfl⟩), nI_m2 (by omega)⟩
    · rw [if_neg z]
      exact ⟨Or.inl rfl, by decide⟩
  have hRw' : Rw (R.1 0) (R.1 1) w (τ'.1 583) := by
    obtain ⟨r1, r2, r3, r4, r5, r6, r7, r8⟩ := hRw
    refine ⟨fun p hp => ?_, fun p hp => ?_, fun p hp => ?_, fun p hp => ?_, fun s hs => ?_, fun s hs => ?_, fun s hs => ?_, ?_⟩
    · rw [b83 _ (by omega) (Or.inl ⟨p, hp, by omega, by omega⟩)]; exact r1 p hp
    · rw [b83 _ (by omega) (Or.inl ⟨p, hp, by omega, by omega⟩)]; exact r2 p hp
    · rw [b83 _ (by omega) (Or.inl ⟨p, hp, by omega, by omega⟩)]; exact r3 p hp
    · rw [b83 _ (by omega) (Or.inl ⟨p, hp, by omega, by omega⟩)]; exact r4 p hp
    · have e : ∀ p, p < R.1 1 → τ'.1 583 (4 * p) = AAR (R.1 0) (fun p => R.2 1 p 0) (fun p => R.2 1 p 3) (R.1 1) (4 * p) := fun p hp => b83 _ (by omega) (Or.inl ⟨p, hp, by omega, by omega⟩)
      rcases r5 s hs with ⟨y1, y2⟩ | ⟨p, y1, y2, y3, y4⟩
      · exact Or.inl ⟨y1, fun p hp => by
          show τ'.1 583 (4 * p) ≠ nI s
          rw [e p hp]; exact y2 p hp⟩
      · refine Or.inr ⟨p, y1, y2, ?_, fun q hq z => y4 q hq ?_⟩
        · show τ'.1 583 (4 * p) = nI s
          rw [e p y1]; exact y3
        · have z' : τ'.1 583 (4 * q) = nI s := z
          rw [e q hq] at z'
          exact z'
    · rw [b83 _ (by omega) (Or.inr (by omega))]; exact r6 s hs
    · rw [b83 _ (by omega) (Or.inr (by omega))]; exact r7 s hs
    · rw [b83 _ (by omega) (Or.inr (by omega))]; exact r8
  have hH' : HR σ' (R.1 0) (R.1 1) (n + 1) 0 0 w (τ'.1 583) := by
    refine ⟨hRw', ⟨⟨fun p hp => (plcA p hp).1, Am 48 (by omega) (by omega), 0, by omega, Am 49 (by omega) (by omega)⟩, fun p hp => Or.inr ⟨(plcA p hp).2, A1 p hp⟩, fun p hp => ⟨_, (bP p hp).2.2.2, A2 p hp⟩, fun s hs => Or.inl ⟨As _ (by omega) (by omega), As _ (by omega) (by omega)⟩, fun s hs z => absurd (As _ (by omega) (by omega)) z⟩, Or.inl w10, w8⟩
  have we : WE w (gH σ' 39) := ⟨fun c _ _ j _ => by rw [a39 c (by omega)], by rw [a39 0 (by omega)], by rw [a39 0 (by omega)], by rw [a39 0 (by omega)]⟩
  refine ⟨ln', ⟨⟨⟨(c1 0 (by omega)).1, hS8, (c1 1 (by omega)).1, hP8, (c1 2 (by omega)).1, hG10, fun g hg => ⟨(v12 g hg).1, hw4 g hg⟩, by rw [a38]; exact C.2.2.2.2.2.2.2.1, (fun p z => by cases z), a33⟩, ⟨b26, hS8, b27, hP8, b28, hG10, fun g hg => ⟨b79 g 0 hg (by omega), hw4 g hg⟩, by rw [b0 40 (by omega)]; exact h40, by omega, fun e he => by omega, fun p hp => ⟨R.2 1 p 1, by have := (bP p hp).2.1; omega, b77 p 1 hp (by omega)⟩, fun s hs => ⟨R.2 0 s 2, by have := (bS s hs).2.2; omega, b75 s 2 hs (by omega)⟩⟩, ⟨fun s hs => (v5 s hs).1.trans (b75 s 0 hs (by omega)).symm, fun s hs => (v5 s hs).2.2.trans (b75 s 2 hs (by omega)).symm, fun p hp => (v9 p hp).1.trans (b77 p 1 hp (by omega)).symm, fun p hp => (v9 p hp).2.trans (b77 p 2 hp (by omega)).symm⟩, fun g hg => ⟨(v12 g hg).2.1.trans (b79 g 1 hg (by omega)).symm, (v12 g hg).2.2.trans (b79 g 2 hg (by omega)).symm, ⟨R.2 2 g 2, by have := (bG g hg).2; omega, (v12 g hg).2.2⟩, ?_, ⟨R.2 2 g 1, by have := (bG g hg).1; omega, (v12 g hg).2.1⟩⟩, Or.inl ⟨rfl, rfl⟩, fun p hp => ⟨b77 p 1 hp (by omega), q10 p hp⟩, fun p hp => ⟨b77 p 2 hp (by omega), (bP p hp).2.2.1.1, q1k p hp⟩, aL.2, fun m _ p s _ _ => hln m p s, hn1⟩, aL.1, hH'.cp we hS8 hP8 (fun _ _ => rfl), c4, b81 1 (by omega), by omega, by omega, by omega, ⟨fun z => by omega, fun z => by omega⟩, fun z => by omega, ⟨by rw [a38]; exact h38a, by rw [a38]; exact h38b, by rw [b0 39 (by omega)]; exact h39, by rw [b0 40 (by omega)]; exact h40⟩, ⟨fun i hi => by rw [b5, bO 586 (by omega)]; exact i1 i hi, fun s hs => ⟨b75 s 0 hs (by omega), b75 s 1 hs (by omega), b75 s 2 hs (by omega)⟩, fun p hp => b77 p 1 hp (by omega), b81 0 (by omega), by rw [b0 35 (by omega)]; exact i5, fun t ht => ?_⟩⟩, ⟨(a39 0 (by omega) ▸ w8 : gH σ' 39 0 8 = 0), Am 49 (by omega) (by omega), fun i c hi => by omega⟩, ⟨a13, by rw [a1 14 (by omega) (by omega)]; exact p2, b46, by omega, p5, fun i hi => by omega⟩, ⟨hS8, hP8, by omega, m4, fun s hs => qS s hs, fun p hp => q10 p hp, m7, m8⟩, c3, ⟨fun z => by omega, o3.2⟩, fun s hs => (v5 s hs).2.1.trans (b75 s 1 hs (by omega)).symm, ⟨0, a2, b6, by omega, fun i hi => by omega⟩, ⟨by rw [a1 6 (by omega) (by omega)]; exact o61, by rw [b0 7 (by omega)]; exact o62, fun t ht => ?_⟩, by rw [a1 7 (by omega) (by omega)]; exact o7, ⟨u, u1, by rw [a1 8 (by omega) (by omega)]; exact u2, by rw [b0 36 (by omega)]; exact u3⟩, ⟨0, a81, b57, by omega, fun i hi => by omega⟩, Or.inl ⟨a16, b59⟩, hr σ σ' τ τ' n o11 C.2.2.2.2.2.2.2.2.2 hn1 a33 a815⟩
  · rw [a38, b0 39 (by omega), h38a, h39]
    exact hap_all g (by omega)
  · obtain ⟨z1, z2, z3⟩ := i6 t ht
    exact ⟨by rw [bO 573 (by omega)]; exact z1, z2, fun j hj => by rw [bO 572 (by omega)]; exact z3 j hj⟩
  · have z := o63 t ht
    unfold TasteC at z ⊢
    rw [(aT t ht).1, (aT t ht).2]
    exact z
end
