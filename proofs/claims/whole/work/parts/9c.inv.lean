/-! the invariant between two calls; every call so far keeps it and answers alike -/
/-- what acts and questions may change in the class, in the model -/
def nwC (b j : Nat) : Prop := scC b j ∨ (39 ≤ b ∧ b < 48) ∨ (b = 1 ∧ (j = 13 ∨ j = 14)) ∨ (210 ≤ b ∧ b < 570)
def nwM (b j : Nat) : Prop := scM b j ∨ wX b j
def TPE (σ τ : LH) : Prop := ∃ T, σ.1 2 1 = nI T ∧ τ.1 570 6 = nI T ∧ T ≤ 240 ∧ ∀ i, i < T → ∃ b, 1 ≤ b ∧ b < 256 ∧ σ.1 3 i = nI b ∧ τ.1 571 i = sx b
def TLD (σ τ : LH) (S P : Nat) : Prop := ∃ t, σ.1 81 10 = nI t ∧ τ.1 570 57 = nI t ∧ t ≤ 8 ∧ ∀ i, i < t → σ.1 83 i = τ.1 595 i ∧ σ.1 84 i = τ.1 596 i ∧ (∃ p, p < P ∧ σ.1 83 i = nI p) ∧ plc S (σ.1 84 i)
def PIC (σ τ : LH) (S P n eN : Nat) : Prop := (σ.1 1 16 = 0 ∧ τ.1 570 59 = 0) ∨ (σ.1 1 16 = 1 ∧ τ.1 570 59 = 1 ∧ HL σ S P n eN (gH σ 49) (τ.1 597))
/-- what else holds: closed under what acts and questions change -/
def vC (b j : Nat) : Prop := nwC b j ∨ b = 1 ∨ b = 2 ∨ b = 3 ∨ (15 ≤ b ∧ b < 33) ∨ (49 ≤ b ∧ b < 58) ∨ (195 ≤ b ∧ b < 210)
def vM (b j : Nat) : Prop := nwM b j ∨ b = 571 ∨ b = 572 ∨ b = 573 ∨ b = 576 ∨ b = 578 ∨ b = 580 ∨ b = 582 ∨ b = 597 ∨ (b = 570 ∧ (j = 6 ∨ j = 7 ∨ j = 29 ∨ j = 30 ∨ j = 31 ∨ j = 32 ∨ j = 36 ∨ j = 59))
def Vcl (V : LH → LH → Prop) : Prop := ∀ σ σ' τ τ' : LH, V σ τ → (∀ b j, ¬ vC b j → σ'.1 b j = σ.1 b j) → (∀ b j, ¬ vM b j → τ'.1 b j = τ.1 b j) → V σ' τ'
def OT (V : LH → LH → Prop) (σ τ : LH) (S P F E n cnt : Nat) (wn mn xn qn : Nat → Nat) (held : Option Nat) (Bt : Nat → Nat → Nat) (le : Nat → Nat) (CLs : Nat → CL) : Prop :=
  MK S P F cnt wn mn xn qn held Bt le CLs ∧ σ.1 4 14 = nI F ∧ ((P = 0 → F = 0) ∧ ∀ t, t < cnt → le t ≤ 240) ∧ (∀ s, s < S → σ.1 6 s = τ.1 575 (3 * s + 1)) ∧ TPE σ τ ∧
  (σ.1 1 6 = nI cnt ∧ τ.1 570 7 = nI cnt ∧ ∀ t, t < cnt → TasteC σ (195 + 3 * t) (CLs t)) ∧ σ.1 1 7 = oI held ∧ (∃ u, u < 100 ∧ σ.1 1 8 = nI u ∧ τ.1 570 36 = nI u) ∧ TLD σ τ S P ∧ PIC σ τ S P n (E + 1) ∧ V σ τ
section
variable {V : LH → LH → Prop} {σ τ σ' τ' : LH} {S P F E n0 n cnt mm M k N c : Nat} {wn mn xn qn sn go : Nat → Nat} {held : Option Nat} {Bt : Nat → Nat → Nat} {le : Nat → Nat} {CLs : Nat → CL} {ln : Nat → Nat → Nat → Nat}
theorem OT.fr (h : OT V σ τ S P F E n cnt wn mn xn qn held Bt le CLs) (hV : Vcl V) (hσ : ∀ b j, ¬ nwC b j → σ'.1 b j = σ.1 b j) (hτ : ∀ b j, ¬ nwM b j → τ'.1 b j = τ.1 b j) : OT V σ' τ' S P F E n cnt wn mn xn qn held Bt le CLs := by
  obtain ⟨h1, h2, h3, h4, ⟨T, t1, t2, t3, t4⟩, ⟨c1, c2, c3⟩, h7, ⟨u, u1, u2, u3⟩, ⟨t, d1, d2, d3, d4⟩, h10, h11⟩ := h
  have a : ∀ b, b = 2 ∨ b = 3 ∨ b = 4 ∨ b = 5 ∨ b = 6 ∨ b = 7 ∨ b = 9 ∨ b = 10 ∨ b = 34 ∨ b = 83 ∨ b = 84 ∨ (49 ≤ b ∧ b < 58) ∨ (195 ≤ b ∧ b < 210) → σ'.1 b = σ.1 b := fun b hb => funext fun j => hσ b j (by unfold nwC scC; omega)
  have a1 : ∀ j, j ≠ 13 → j ≠ 14 → σ'.1 1 j = σ.1 1 j := fun j q1 q2 => hσ 1 j (by unfold nwC scC; omega)
  have e : ∀ b, b = 571 ∨ b = 575 ∨ b = 595 ∨ b = 596 ∨ b = 597 → τ'.1 b = τ.1 b := fun b hb => funext fun j => hτ b j (by unfold nwM scM wX; omega)
  have e1 : ∀ j, j = 6 ∨ j = 7 ∨ j = 36 ∨ j = 57 ∨ j = 59 → τ'.1 570 j = τ.1 570 j := fun j hj => hτ 570 j (by unfold nwM scM wX; omega)
  have hS8 : S ≤ 8 := h1.1
  have hP8 : P ≤ 8 := h1.2.1
  refine ⟨h1, ?_, h3, fun s hs => ?_, ⟨T, ?_, ?_, t3, fun i hi => ?_⟩, ⟨?_, ?_, fun t ht => ?_⟩, ?_, ⟨u, u1, ?_, ?_⟩, ⟨t, ?_, ?_, d3, fun i hi => ?_⟩, ?_, hV σ σ' τ τ' h11 (fun b j q => hσ b j (fun z => q (Or.inl z))) (fun b j q => hτ b j (fun z => q (Or.inl z)))⟩
  · rw [a 4 (by omega)]; exact h2
  · rw [a 6 (by omega), e 575 (by omega)]; exact h4 s hs
  · rw [a 2 (by omega)]; exact t1
  · rw [e1 6 (by omega)]; exact t2
  · rw [a 3 (by omega), e 571 (by omega)]; exact t4 i hi
  · rw [a1 6 (by omega) (by omega)]; exact c1
  · rw [e1 7 (by omega)]; exact c2
  · have hc4 : cnt ≤ 4 := h1.2.2.2.1
    have x := c3 t ht
    unfold TasteC at x ⊢
    rw [a (195 + 3 * t) (by omega), a (195 + 3 * t + 1) (by omega)]
    exact x
  · rw [a1 7 (by omega) (by omega)]; exact h7
  · rw [a1 8 (by omega) (by omega)]; exact u2
  · rw [e1 36 (by omega)]; exact u3
  · rw [hσ 81 10 (by unfold nwC scC; omega)]; exact d1
  · rw [e1 57 (by omega)]; exact d2
  · rw [a 83 (by omega), a 84 (by omega), e 595 (by omega), e 596 (by omega)]; exact d4 i hi
  · rcases h10 with ⟨z1, z2⟩ | ⟨z1, z2, z3⟩
    · refine Or.inl ⟨?_, ?_⟩
      · rw [a1 16 (by omega) (by omega)]; exact z1
      · rw [e1 59 (by omega)]; exact z2
    · refine Or.inr ⟨?_, ?_, ?_⟩
      · rw [a1 16 (by omega) (by omega)]; exact z1
      · rw [e1 59 (by omega)]; exact z2
      · have eg : ∀ c, c < 9 → gH σ' 49 c = gH σ 49 c := fun c hc => a (49 + c) (by omega)
        rw [e 597 (by omega)]
        exact z3.cp hS8 hP8 (fun b hb => a b (by omega)) ⟨fun c _ _ j _ => by rw [eg c (by omega)], by rw [eg 0 (by omega)], by rw [eg 0 (by omega)], by rw [eg 0 (by omega)]⟩ (fun j _ => by rw [eg 8 (by omega)]) (fun _ _ => rfl)
/-- all that holds between two calls, by its numbers -/
def NVp (V : LH → LH → Prop) (σ τ : LH) (S P F E n0 n cnt mm M k N : Nat) (wn mn xn qn sn go : Nat → Nat) (held : Option Nat) (Bt : Nat → Nat → Nat) (le : Nat → Nat) (CLs : Nat → CL) (ln : Nat → Nat → Nat → Nat) : Prop :=
  QX (MI S P F cnt wn mn xn qn held Bt le CLs) σ τ S P n0 n E go (Lf F wn mn xn qn held CLs) ln qn sn mm M ∧ Lg (gH σ 39) (τ.1 583) M ∧ PR σ τ S P n (E + 1) k N ∧ OT V σ τ S P F E n cnt wn mn xn qn held Bt le CLs
theorem NVp.q (h : NVp V σ τ S P F E n0 n cnt mm M k N wn mn xn qn sn go held Bt le CLs ln) (hV : Vcl V) (hσ : FR scC σ σ') (hτ : FT scM τ τ') (hF : FIN σ' τ') (hI : MI S P F cnt wn mn xn qn held Bt le CLs τ') : NVp V σ' τ' S P F E n0 n cnt mm M k N wn mn xn qn sn go held Bt le CLs ln :=
  ⟨h.1.q hσ hτ hF hI, h.2.1.q hσ hτ, h.2.2.1.q h.1.S8 h.1.P8 hσ hτ, h.2.2.2.fr hV (fun b j q => hσ.1 b j (fun z => q (Or.inl z))) (fun b j q => hτ.1 b j (fun z => q (Or.inl z)))⟩
theorem NVp.g (h : NVp V σ τ S P F E n0 n cnt mm M k N wn mn xn qn sn go held Bt le CLs ln) (hV : Vcl V) {mm' M' k' N' : Nat} (g : GI (I0 (MI S P F cnt wn mn xn qn held Bt le CLs) τ) (J0 σ) σ' τ' S P n0 0 n (E + 1) go (fun _ => 0) none (Lf F wn mn xn qn held CLs) ln qn sn mm' M' k' N') (h1 : mm' ≤ E) (h2 : M' ≤ 1000 * mm') : NVp V σ' τ' S P F E n0 n cnt mm' M' k' N' wn mn xn qn sn go held Bt le CLs ln := by
  obtain ⟨x1, x2, x3, x4, x5⟩ := h.1.ofgi g h1 h2
  refine ⟨x1, x2, x3, h.2.2.2.fr hV (fun b j q => ?_) (fun b j q => x5.1 b j (fun z => q (Or.inr z)))⟩
  unfold nwC at q
  by_cases z : b = 1
  · subst z
    exact x4.2.1 j (by omega) (by omega)
  · exact congrFun (x4.1 b z (by omega) (by omega)) j
/-- all that holds between two calls, after at most c of them -/
def NV (V : LH → LH → Prop) (c : Nat) (σ τ : LH) : Prop := ∃ S P F E n0 n cnt mm M k N wn mn xn qn sn go held Bt le CLs ln, NVp V σ τ S P F E n0 n cnt mm M k N wn mn xn qn sn go held Bt le CLs ln ∧ n ≤ c
/-- alike, and it holds again -/
def AL (V : LH → LH → Prop) (c : Nat) (f g : Option (Int32 × LH)) : Prop := ∃ r σ' τ', f = some (r, σ') ∧ g = some (r, τ') ∧ NV V c σ' τ'
theorem NVp.qr (h : NVp V σ τ S P F E n0 n cnt mm M k N wn mn xn qn sn go held Bt le CLs ln) (hV : Vcl V) (hn : n ≤ c) {f g : Option (Int32 × LH)} (q : QR (MI S P F cnt wn mn xn qn held Bt le CLs) f g σ τ) : AL V c f g := by
  obtain ⟨r, σ', τ', q1, q2, q3, q4, q5, q6⟩ := q
  exact ⟨r, σ', τ', q1, q2, S, P, F, E, n0, n, cnt, mm, M, k, N, wn, mn, xn, qn, sn, go, held, Bt, le, CLs, ln, h.q hV q3 q4 q5 q6, hn⟩
theorem NVp.ac (h : NVp V σ τ S P F E n0 n cnt mm M k N wn mn xn qn sn go held Bt le CLs ln) (hV : Vcl V) (hn : n ≤ c) {f g : Option (Int32 × LH)} {r : Int32} {mm' M' k' N' : Nat} (hf : f = some (r, σ')) (hg : g = some (r, τ')) (gi : GI (I0 (MI S P F cnt wn mn xn qn held Bt le CLs) τ) (J0 σ) σ' τ' S P n0 0 n (E + 1) go (fun _ => 0) none (Lf F wn mn xn qn held CLs) ln qn sn mm' M' k' N') (h1 : mm' ≤ E) (h2 : M' ≤ 1000 * mm') : AL V c f g :=
  ⟨r, σ', τ', hf, hg, S, P, F, E, n0, n, cnt, mm', M', k', N', wn, mn, xn, qn, sn, go, held, Bt, le, CLs, ln, h.g hV gi h1 h2, hn⟩
theorem NVp.lk (h : NVp V σ τ S P F E n0 n cnt mm M k N wn mn xn qn sn go held Bt le CLs ln) : LKok (MI S P F cnt wn mn xn qn held Bt le CLs) P S (Lf F wn mn xn qn held CLs) := h.2.2.2.1.lk
theorem NVp.gi (h : NVp V σ τ S P F E n0 n cnt mm M k N wn mn xn qn sn go held Bt le CLs ln) : GI (I0 (MI S P F cnt wn mn xn qn held Bt le CLs) τ) (J0 σ) σ τ S P n0 0 n (E + 1) go (fun _ => 0) none (Lf F wn mn xn qn held CLs) ln qn sn mm M k N := h.1.gi h.2.1 h.2.2.1
theorem NVp.M2 (h : NVp V σ τ S P F E n0 n cnt mm M k N wn mn xn qn sn go held Bt le CLs ln) : M < 2 ^ 29 := by
  have := h.1.M1; have := h.1.mE; have := h.1.e100; omega
end
section
variable {V : LH → LH → Prop} {σ τ : LH} {c : Nat}
theorem w_ahead (hV : Vcl V) (h : NV V c σ τ) (x y z : Int32) : AL V c (s_Main_ahead x y z σ) (s_Model_ahead x y z τ) := by
  obtain ⟨S, P, F, E, n0, n, cnt, mm, M, k, N, wn, mn, xn, qn, sn, go, held, Bt, le, CLs, ln, h, hn⟩ := h
  exact h.qr hV hn (a_ahead MI.dep h.lk h.1 x y z)
theorem w_chain (hV : Vcl V) (h : NV V c σ τ) (x z : Int32) : AL V c (s_Main_chain x z σ) (s_Model_chain x z τ) := by
  obtain ⟨S, P, F, E, n0, n, cnt, mm, M, k, N, wn, mn, xn, qn, sn, go, held, Bt, le, CLs, ln, h, hn⟩ := h
  exact h.qr hV hn (a_chain MI.dep h.lk h.1 x z)
theorem w_when (hV : Vcl V) (h : NV V c σ τ) (x y u z : Int32) : AL V c (s_Main_when x y u z σ) (s_Model_when x y u z τ) := by
  obtain ⟨S, P, F, E, n0, n, cnt, mm, M, k, N, wn, mn, xn, qn, sn, go, held, Bt, le, CLs, ln, h, hn⟩ := h
  exact h.qr hV hn (a_when MI.dep h.lk h.1 x y u z)
theorem w_keeping (hV : Vcl V) (h : NV V c σ τ) (x y : Int32) : AL V c (s_Main_keeping x y σ) (s_Model_keeping x y τ) := by
  obtain ⟨S, P, F, E, n0, n, cnt, mm, M, k, N, wn, mn, xn, qn, sn, go, held, Bt, le, CLs, ln, h, hn⟩ := h
  exact h.qr hV hn (a_keeping MI.dep h.lk h.1 x y)
theorem w_best (hV : Vcl V) (h : NV V c σ τ) (x z : Int32) : AL V c (s_Main_best x z σ) (s_Model_best x z τ) := by
  obtain ⟨S, P, F, E, n0, n, cnt, mm, M, k, N, wn, mn, xn, qn, sn, go, held, Bt, le, CLs, ln, h, hn⟩ := h
  exact h.qr hV hn (a_best MI.dep h.lk h.1 x z)
theorem w_sure (hV : Vcl V) (h : NV V c σ τ) (x : Int32) : AL V c (s_Main_sure x σ) (s_Model_sure x τ) := by
  obtain ⟨S, P, F, E, n0, n, cnt, mm, M, k, N, wn, mn, xn, qn, sn, go, held, Bt, le, CLs, ln, h, hn⟩ := h
  exact h.qr hV hn (a_sure MI.dep h.lk h.1 h.2.2.2.2.1 h.1.it.2.2.2.1 h.2.2.2.1.2.2.1 x)
theorem w_broken (hV : Vcl V) (h : NV V c σ τ) (x : Int32) : AL V c (s_Main_broken x σ) (s_Model_broken x τ) := by
  obtain ⟨S, P, F, E, n0, n, cnt, mm, M, k, N, wn, mn, xn, qn, sn, go, held, Bt, le, CLs, ln, h, hn⟩ := h
  exact h.qr hV hn (a_broken MI.dep h.lk h.1 x)
theorem w_rule (hV : Vcl V) (h : NV V c σ τ) (z : Int32) : AL V c (s_Main_rule z σ) (s_Model_rule z τ) := by
  obtain ⟨S, P, F, E, n0, n, cnt, mm, M, k, N, wn, mn, xn, qn, sn, go, held, Bt, le, CLs, ln, h, hn⟩ := h
  exact h.qr hV hn (a_rule MI.dep h.lk h.1 z)
theorem w_likes (hV : Vcl V) (h : NV V c σ τ) (x y : Int32) : AL V c (s_Main_likes x y σ) (s_Model_likes x y τ) := by
  obtain ⟨S, P, F, E, n0, n, cnt, mm, M, k, N, wn, mn, xn, qn, sn, go, held, Bt, le, CLs, ln, h, hn⟩ := h
  exact h.qr hV hn (a_likes MI.dep h.lk h.1 x y)
theorem w_seat (hV : Vcl V) (h : NV V c σ τ) (x y : Int32) : AL V c (s_Main_seat x y σ) (s_Model_seat x y τ) := by
  obtain ⟨S, P, F, E, n0, n, cnt, mm, M, k, N, wn, mn, xn, qn, sn, go, held, Bt, le, CLs, ln, h, hn⟩ := h
  exact h.qr hV hn (a_seat MI.dep h.1 h.2.2.2.2.2.2.1 x y)
theorem w_going (hV : Vcl V) (h : NV V c σ τ) (x y : Int32) : AL V c (s_Main_going x y σ) (s_Model_going x y τ) := by
  obtain ⟨S, P, F, E, n0, n, cnt, mm, M, k, N, wn, mn, xn, qn, sn, go, held, Bt, le, CLs, ln, h, hn⟩ := h
  exact h.qr hV hn (a_going MI.dep h.1 x y)
theorem w_ladder (hV : Vcl V) (h : NV V c σ τ) (x : Int32) : AL V c (s_Main_ladder x σ) (s_Model_ladder x τ) := by
  obtain ⟨S, P, F, E, n0, n, cnt, mm, M, k, N, wn, mn, xn, qn, sn, go, held, Bt, le, CLs, ln, h, hn⟩ := h
  exact h.qr hV hn (a_ladder MI.dep h.1 x)
theorem w_envy (hV : Vcl V) (h : NV V c σ τ) : AL V c (s_Main_envy σ) (s_Model_envy τ) := by
  obtain ⟨S, P, F, E, n0, n, cnt, mm, M, k, N, wn, mn, xn, qn, sn, go, held, Bt, le, CLs, ln, h, hn⟩ := h
  exact h.qr hV hn (a_envy MI.dep h.lk h.1)
theorem w_count (hV : Vcl V) (h : NV V c σ τ) (x : Int32) : AL V c (s_Main_count x σ) (s_Model_count x τ) := by
  obtain ⟨S, P, F, E, n0, n, cnt, mm, M, k, N, wn, mn, xn, qn, sn, go, held, Bt, le, CLs, ln, h, hn⟩ := h
  obtain ⟨x1, x2, x3, x4⟩ := id h
  obtain ⟨o1, o2, o3, o4, ⟨T, t1, t2, -, -⟩, ⟨c1, c2, -⟩, o7, ⟨u, -, u2, u3⟩, ⟨t, d1, d2, -, -⟩, -, -⟩ := x4
  exact h.qr hV hn (a_count MI.dep x1 x2 o2 x1.it.2.2.2.1 o3.1 (c1.trans c2.symm) (t1.trans t2.symm) (o7.trans x1.it.2.2.2.2.1.symm) (u2.trans u3.symm) (x3.1.trans x3.2.2.1.symm) (d1.trans d2.symm) x)
theorem w_log (hV : Vcl V) (h : NV V c σ τ) (i j : Int32) : AL V c (s_Main_log i j σ) (s_Model_log i j τ) := by
  obtain ⟨S, P, F, E, n0, n, cnt, mm, M, k, N, wn, mn, xn, qn, sn, go, held, Bt, le, CLs, ln, h, hn⟩ := h
  obtain ⟨r, a1, a2⟩ := a_log h.2.1 h.M2 i j
  exact h.qr hV hn (QR.no h.1 MI.dep r a1 a2)
theorem w_warm (hV : Vcl V) (h : NV V c σ τ) : AL V c (s_Main_warm σ) (s_Model_warm τ) := by
  obtain ⟨S, P, F, E, n0, n, cnt, mm, M, k, N, wn, mn, xn, qn, sn, go, held, Bt, le, CLs, ln, h, hn⟩ := h
  obtain ⟨r, a1, a2⟩ := a_warm h.2.1 h.M2
  exact h.qr hV hn (QR.no h.1 MI.dep r a1 a2)
theorem w_often (hV : Vcl V) (h : NV V c σ τ) (x : Int32) : AL V c (s_Main_often x σ) (s_Model_often x τ) := by
  obtain ⟨S, P, F, E, n0, n, cnt, mm, M, k, N, wn, mn, xn, qn, sn, go, held, Bt, le, CLs, ln, h, hn⟩ := h
  obtain ⟨r, a1, a2⟩ := a_often h.1.hP h.1.P8 h.1.mP h.2.1 h.M2 x
  exact h.qr hV hn (QR.no h.1 MI.dep r a1 a2)
theorem w_even (hV : Vcl V) (h : NV V c σ τ) : AL V c (s_Main_even σ) (s_Model_even τ) := by
  obtain ⟨S, P, F, E, n0, n, cnt, mm, M, k, N, wn, mn, xn, qn, sn, go, held, Bt, le, CLs, ln, h, hn⟩ := h
  obtain ⟨r, a1, a2⟩ := a_even h.1.hS h.1.hP h.1.S8 h.1.P8 h.1.mP h.1.sp h.1.2.2.1.1
  exact h.qr hV hn (QR.no h.1 MI.dep r a1 a2)
theorem w_go (hV : Vcl V) (h : NV V c σ τ) (x : Int32) : AL V c (s_Main_go x σ) (s_Model_go x τ) := by
  obtain ⟨S, P, F, E, n0, n, cnt, mm, M, k, N, wn, mn, xn, qn, sn, go, held, Bt, le, CLs, ln, h, hn⟩ := h
  have hmE := h.1.mE
  obtain ⟨r, σ', τ', mm', M', k', N', g1, g2, g3, g4, g5⟩ := a_go (I0.cl MI.dep) (I0.past MI.dep) (I0.lk h.lk) (I0.z MI.dep h.gi.2.2.2.2.1) h.gi h.1.e100 h.1.cE h.1.tE h.1.mE h.1.M1 (fun z => by have := h.1.pe z; omega) x
  exact h.ac hV hn g1 g2 g5 g3 g4
theorem w_undo (hV : Vcl V) (h : NV V c σ τ) : AL V c (s_Main_undo σ) (s_Model_undo τ) := by
  obtain ⟨S, P, F, E, n0, n, cnt, mm, M, k, N, wn, mn, xn, qn, sn, go, held, Bt, le, CLs, ln, h, hn⟩ := h
  obtain ⟨r, σ', τ', mm', M', k', N', g1, g2, g3, g4, g5⟩ := a_undo (I0.cl MI.dep) (I0.past MI.dep) (fun _ z => I0.z MI.dep z) h.gi h.1.mE h.1.M1
  exact h.ac hV hn g1 g2 g5 g3 g4
theorem w_up (hV : Vcl V) (h : NV V c σ τ) (x y : Int32) : AL V c (s_Main_up x y σ) (s_Model_up x y τ) := by
  obtain ⟨S, P, F, E, n0, n, cnt, mm, M, k, N, wn, mn, xn, qn, sn, go, held, Bt, le, CLs, ln, h, hn⟩ := h
  obtain ⟨r, σ', τ', k', N', g1, g2, g5⟩ := a_up (I0.cl MI.dep) (I0.past MI.dep) (I0.z MI.dep h.gi.2.2.2.2.1) h.gi h.1.e100 h.1.cE h.1.tE h.1.mE h.1.M1 x y
  exact h.ac hV hn g1 g2 g5 h.1.mE h.1.M1
theorem w_keeps (hV : Vcl V) (h : NV V c σ τ) (x y : Int32) : AL V c (s_Main_keeps x y σ) (s_Model_keeps x y τ) := by
  obtain ⟨S, P, F, E, n0, n, cnt, mm, M, k, N, wn, mn, xn, qn, sn, go, held, Bt, le, CLs, ln, h, hn⟩ := h
  obtain ⟨r, σ', τ', k', N', g1, g2, g5⟩ := a_keeps (I0.cl MI.dep) (I0.past MI.dep) (I0.z MI.dep h.gi.2.2.2.2.1) h.gi h.1.mE h.1.M1 x y
  exact h.ac hV hn g1 g2 g5 h.1.mE h.1.M1
theorem w_swap (hV : Vcl V) (h : NV V c σ τ) (x y : Int32) : AL V c (s_Main_swap x y σ) (s_Model_swap x y τ) := by
  obtain ⟨S, P, F, E, n0, n, cnt, mm, M, k, N, wn, mn, xn, qn, sn, go, held, Bt, le, CLs, ln, h, hn⟩ := h
  obtain ⟨r, σ', τ', k', N', g1, g2, g5⟩ := a_swap (I0.cl MI.dep) (I0.past MI.dep) (I0.z MI.dep h.gi.2.2.2.2.1) h.gi h.1.mE h.1.M1 x y
  exact h.ac hV hn g1 g2 g5 h.1.mE h.1.M1
end
