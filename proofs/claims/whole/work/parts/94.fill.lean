/-! likings in the class: a minute laid out -/
theorem m1_sub {c : Int32} (h : (-1) - c = nI 4) : c = lco 4 := by
  have e1 : nI 4 + c = -1 := by rw [← h, Int32.sub_add_cancel]
  have e2 : c + nI 4 = -1 := by rw [Int32.add_comm]; exact e1
  have e3 : c = -1 - nI 4 := by rw [← e2, Int32.add_sub_cancel]
  rw [e3]
  rfl
theorem vof_y {l l' : Nat → Int32} {c y : Int32} (hl : ∀ i, i < 6 → i ≠ 4 → l i = l' i) (hy : y ≠ nI 4) : (if c < 0 then (if y < 0 ∨ 6 ≤ y then 0 else l y.toNatClampNeg) else c) = (if c < 0 then (if y < 0 ∨ 6 ≤ y then 0 else l' y.toNatClampNeg) else c) := by
  by_cases q : c < 0
  · rw [if_pos q, if_pos q]
    by_cases q1 : y < 0 ∨ 6 ≤ y
    · rw [if_pos q1, if_pos q1]
    · rw [if_neg q1, if_neg q1]
      obtain ⟨j, hj, e⟩ := nI_ofx (n := 6) (x := y) (by omega) (Int32.not_lt.mp (fun z => q1 (Or.inl z))) (show y < nI 6 from Int32.not_le.mp (fun z => q1 (Or.inr z)))
      rw [e, nI_clamp (by omega)]
      exact hl j hj (fun z => hy (by rw [e, z]))
  · rw [if_neg q, if_neg q]
theorem vof_cg {l l' : Nat → Int32} {c : Int32} (hl : ∀ i, i < 6 → i ≠ 4 → l i = l' i) (hc : c ≠ lco 4) : vof l c = vof l' c := by
  unfold vof
  exact vof_y hl (fun z => hc (m1_sub z))
def exV (c v : Int32) (st : List Int32) : Option (List Int32) :=
  if c ≤ -11 then (if c = -20 then (match st with
    | x :: r => some ((1 - x) :: r)
    | [] => none) else if c = -21 ∨ c = -22 then none else match st with
    | b :: a :: r => some (jn c a b :: r)
    | _ => none)
  else if st.length < 64 then some (v :: st) else none
theorem ex1_v {l : Nat → Int32} {c : Int32} {st : List Int32} : ex1 l c st = exV c (vof l c) st := rfl
theorem exs_cg {l l' : Nat → Int32} (hl : ∀ i, i < 6 → i ≠ 4 → l i = l' i) : ∀ (cs st : List Int32), lco 4 ∉ cs → exs l cs st = exs l' cs st := by
  intro cs
  induction cs with
  | nil => intro st _; rfl
  | cons c cs ih =>
    intro st h
    have hc : c ≠ lco 4 := fun z => h (by rw [z]; exact List.mem_cons_self)
    have e1 : ex1 l c st = ex1 l' c st := by rw [ex1_v, ex1_v, vof_cg hl hc]
    show (ex1 l c st).bind (exs l cs) = (ex1 l' c st).bind (exs l' cs)
    rw [e1]
    cases ex1 l' c st with
    | none =>
      show (none : Option (List Int32)) = none
      rfl
    | some s => exact ih s (fun z => h (List.mem_cons_of_mem _ z))
theorem evl_cg {l l' : Nat → Int32} (hl : ∀ i, i < 6 → i ≠ 4 → l i = l' i) {cs : List Int32} (h : lco 4 ∉ cs) : evl l cs = evl l' cs := by
  unfold evl
  rw [exs_cg hl cs [] h]
theorem wOf_cg {l l' : Nat → Int32} (hl : ∀ i, i < 6 → i ≠ 4 → l i = l' i) : ∀ (cl : CL) (k : Nat), lco 4 ∉ encA k cl → wOf l cl = wOf l' cl := by
  intro cl
  induction cl with
  | nil => intro k _; rfl
  | cons q r ih =>
    intro k h
    have h1 : lco 4 ∉ encC k q := fun z => h (List.mem_append_left _ z)
    have h2 : lco 4 ∉ encA (k + (encC k q).length) r := fun z => h (List.mem_append_right _ z)
    have hs : lco 4 ∉ q.2 := fun z => h1 (by
      unfold encC
      cases q.1 with
      | none => exact List.mem_append_left _ z
      | some c => exact List.mem_append_left _ (List.mem_append_right _ z))
    have hcd : cdV l q.1 = cdV l' q.1 := by
      cases hq : q.1 with
      | none => rfl
      | some c =>
        exact evl_cg hl (fun z => h1 (by
          unfold encC
          rw [hq]
          exact List.mem_append_left _ (List.mem_append_left _ (List.mem_append_left _ z))))
    show (if cdV l q.1 = 0 then wOf l r else evl l q.2) = (if cdV l' q.1 = 0 then wOf l' r else evl l' q.2)
    rw [hcd, evl_cg hl hs, ih _ h2]
/-- a taste laid out in the class -/
def TasteC (σ : LH) (t : Nat) (cl : CL) : Prop := 38 ≤ t ∧ (encA 0 cl).length ≤ 240 ∧ σ.1 t 1 = nI (encA 0 cl).length ∧ (∀ i, i < (encA 0 cl).length → σ.1 (t + 1) i = (encA 0 cl).getD i 0) ∧ (∀ l, ∀ q ∈ cl, WFq l q) ∧ σ.1 t 3 = (if lco 4 ∈ encA 0 cl then 1 else 0)
/-- the taste that holds: its cell, its stack -/
def HT (σ : LH) (hd sc : Nat) (held : Option Nat) (CLs : Nat → CL) : Prop := 195 ≤ sc ∧ sc < 210 ∧ ((held = none ∧ hd = 0) ∨ ∃ h, held = some h ∧ h < 5 ∧ hd = 195 + 3 * h ∧ sc = hd + 2 ∧ TasteC σ hd (CLs h))
/-- the room as the class holds it -/
def RC (σ : LH) (S P F : Nat) (wn mn xn qn : Nat → Nat) : Prop := σ.1 4 0 = nI S ∧ S ≤ 8 ∧ σ.1 4 1 = nI P ∧ P ≤ 8 ∧ σ.1 4 14 = nI F ∧ F < 100 ∧ (∀ s, s < S → σ.1 5 s = nI (wn s) ∧ σ.1 6 s = nI (mn s) ∧ σ.1 7 s = nI (xn s)) ∧ ∀ p, p < P → σ.1 9 p = nI (qn p)
def wFl (sc b j : Nat) : Prop := b = 34 ∨ b = 37 ∨ b = sc
section
variable {σ σ' : LH} {S P F hd sc : Nat} {wn mn xn qn : Nat → Nat} {held : Option Nat} {CLs : Nat → CL}
theorem RC.fr (h : RC σ S P F wn mn xn qn) (h1 : 195 ≤ sc) (hf : FR (wFl sc) σ σ') : RC σ' S P F wn mn xn qn := by
  have e : ∀ b, b = 4 ∨ b = 5 ∨ b = 6 ∨ b = 7 ∨ b = 9 → σ'.1 b = σ.1 b := fun b hb => funext fun j => hf.1 b j (by unfold wFl; omega)
  unfold RC at h ⊢
  rw [e 4 (by omega), e 5 (by omega), e 6 (by omega), e 7 (by omega), e 9 (by omega)]
  exact h
theorem HT.fr (h : HT σ hd sc held CLs) (hf : FR (wFl sc) σ σ') : HT σ' hd sc held CLs := by
  obtain ⟨h1, h2, h3⟩ := h
  refine ⟨h1, h2, ?_⟩
  rcases h3 with z | ⟨k, k1, k2, k3, k4, k5⟩
  · exact Or.inl z
  · have e : ∀ b, b = hd ∨ b = hd + 1 → σ'.1 b = σ.1 b := fun b hb => funext fun j => hf.1 b j (by unfold wFl; omega)
    refine Or.inr ⟨k, k1, k2, k3, k4, ?_⟩
    unfold TasteC at k5 ⊢
    rw [e hd (by omega), e (hd + 1) (by omega)]
    exact k5
theorem f_148 {p1 : Nat} {rec16 : Int32 → Int32 → LH → Option LH} {m p s : Nat} {v : Int32} (hm : m < 100) (hp : p < 8) (hs : s < 8) : s_Likings_fill_148 (nI m) p1 rec16 (nI p) (nI s) v σ = rec16 (nI p) (nI (s + 1)) (stI σ 34 (m * 64 + p * 8 + s) (cl9 v)) := by
  have e : nI m * 64 + nI p * 8 + nI s = nI (m * 64 + p * 8 + s) := by
    rw [show (64 : Int32) = nI 64 from rfl, show (8 : Int32) = nI 8 from rfl, pk_mul, pk_mul, nI_add, nI_add]
  unfold s_Likings_fill_148 s_Likings_fill_213 s_Likings_fill_214
  simp only [xl]
  rw [e, if_neg (nI_pos (by omega)), if_pos (show nI (m * 64 + p * 8 + s) < 6400 from nI_lt (b := 6400) (by omega) (by omega)), nI_1, nI_clamp (by omega)]
  simp only [if_pos (show ib (nI (m * 64 + p * 8 + s)) 6400 from ib_nI (by omega) (by omega))]
  unfold cl9
  by_cases q1 : 0 ≤ v
  · rw [if_pos q1, if_neg (Int32.not_lt.mpr q1)]
    by_cases q2 : v ≤ 999
    · rw [if_pos q2, if_neg (Int32.not_lt.mpr q2)]
    · rw [if_neg q2, if_pos (Int32.not_le.mp q2)]
  · rw [if_neg q1, if_pos (Int32.not_le.mp q1)]
theorem stI_fl {σ : LH} {a i : Nat} {v : Int32} (h : a = 34 ∨ a = 37 ∨ a = sc) : FR (wFl sc) σ (stI σ a i v) := FR.I h
theorem stF_fl {σ : LH} {a : Nat} {f : Nat → Int32} (h : a = 34 ∨ a = 37 ∨ a = sc) : FR (wFl sc) σ (stF σ a f) := by
  refine ⟨fun b j q => ?_, rfl⟩
  by_cases e : b = a
  · subst e
    exact absurd h q
  · rw [stF_n e]
theorem f_k1 {K : LH → Option LH} {s : Nat} {v : Int32} {σ : LH} (hs : s < 8) : (if ib 1 6 then (xl (stI σ 37 (Int32.toNatClampNeg 1) v) fun σ10 => if ib (nI s) 8 then (if ib 2 6 then (xl (stI σ10 37 (Int32.toNatClampNeg 2) (σ10.1 7 (Int32.toNatClampNeg (nI s)))) K) else none) else none) else none) = K (stI (stI σ 37 1 v) 37 2 (σ.1 7 s)) := by
  rw [if_pos (show ib 1 6 by decide)]
  show (if ib (nI s) 8 then (if ib 2 6 then K (stI (stI σ 37 (Int32.toNatClampNeg 1) v) 37 (Int32.toNatClampNeg 2) ((stI σ 37 (Int32.toNatClampNeg 1) v).1 7 (Int32.toNatClampNeg (nI s)))) else none) else none) = _
  rw [if_pos (ib_nI hs (by omega)), if_pos (show ib 2 6 by decide), stI_n (by omega), nI_clamp (show s < 2 ^ 31 by omega)]
  rfl
theorem f_k2 {K : LH → Option LH} {p m : Nat} {σ : LH} (hp : p < 8) : (if ib (nI p) 8 then (if ib 3 6 then (xl (stI σ 37 (Int32.toNatClampNeg 3) (σ.1 9 (Int32.toNatClampNeg (nI p)))) fun σ16 => if ib 4 6 then (xl (stI σ16 37 (Int32.toNatClampNeg 4) (nI m)) fun σ18 => if ib 5 6 then (xl (stI σ18 37 (Int32.toNatClampNeg 5) (nI p)) K) else none) else none) else none) else none) = K (stI (stI (stI σ 37 3 (σ.1 9 p)) 37 4 (nI m)) 37 5 (nI p)) := by
  rw [if_pos (ib_nI hp (by omega)), if_pos (show ib 3 6 by decide), nI_clamp (show p < 2 ^ 31 by omega)]
  show (if ib 4 6 then (if ib 5 6 then K (stI (stI (stI σ 37 (Int32.toNatClampNeg 3) (σ.1 9 p)) 37 (Int32.toNatClampNeg 4) (nI m)) 37 (Int32.toNatClampNeg 5) (nI p)) else none) else none) = _
  rw [if_pos (show ib 4 6 by decide), if_pos (show ib 5 6 by decide)]
  rfl
theorem f_74 {p1 : Nat} {rec16 : Int32 → Int32 → LH → Option LH} {m p s : Nat} {v : Int32} {σ : LH} (hp : p < 8) (hs : s < 8) : s_Likings_fill_74 (nI m) p1 rec16 (nI p) (nI s) 1 v σ = (fun σ20 : LH => if p1 = 0 then s_Likings_fill_148 (nI m) p1 rec16 (nI p) (nI s) ((σ20.1 37 0) + (σ20.1 37 1)) σ20 else if ¬ p1 = 0 then xb2 (s_Taste_worth p1 37 σ20) fun r34 σ35 => s_Likings_fill_148 (nI m) p1 rec16 (nI p) (nI s) r34 σ35 else none) (stI (stI (stI (stI (stI σ 37 1 v) 37 2 (σ.1 7 s)) 37 3 ((stI (stI σ 37 1 v) 37 2 (σ.1 7 s)).1 9 p)) 37 4 (nI m)) 37 5 (nI p)) := by
  unfold s_Likings_fill_74
  rw [f_k1 hs, f_k2 hp, if_pos (show ib 0 6 by decide), if_pos (show ib 1 6 by decide)]
  rfl
/-- one liking laid out -/
theorem f_16 (hmn0 : ∀ s, s < S → mn s < 2 ^ 20) (R : RC σ S P F wn mn xn qn) (H : HT σ hd sc held CLs) {rec2 : Int32 → LH → Option LH} {n m p s : Nat} (hm : m < 100) (hp : p < P) (hs : s < S) : ∃ σ', s_Likings_fill_16 (nI m) hd rec2 (n + 1) (nI p) (nI s) σ = s_Likings_fill_16 (nI m) hd rec2 n (nI p) (nI (s + 1)) σ' ∧ FR (wFl sc) σ σ' ∧ σ'.1 34 = upd (σ.1 34) (m * 64 + p * 8 + s) (Lf F wn mn xn qn held CLs m p s) := by
  obtain ⟨r1, r2, r3, r4, r5, r6, r7, r8⟩ := R
  obtain ⟨a1, a2, a3⟩ := r7 s hs
  have a4 := r8 p hp
  have i8 : ib (nI s) 8 := ib_nI (by omega) (by omega)
  have t8 : (nI s).toNatClampNeg = s := nI_clamp (by omega)
  have i9 : ib (nI p) 8 := ib_nI (by omega) (by omega)
  have t9 : (nI p).toNatClampNeg = p := nI_clamp (by omega)
  have sc1 := H.1
  -- what comes of it once what is more in the film is known
  have go : ∀ f : Nat, f < 2 ^ 20 → (f = if m < F then 0 else mn s) → ∃ σ', s_Likings_fill_74 (nI m) hd (s_Likings_fill_16 (nI m) hd rec2 n) (nI p) (nI s) 1 (nI f) (stI σ 37 0 (nI (wn s))) = s_Likings_fill_16 (nI m) hd rec2 n (nI p) (nI (s + 1)) σ' ∧ FR (wFl sc) σ σ' ∧ σ'.1 34 = upd (σ.1 34) (m * 64 + p * 8 + s) (Lf F wn mn xn qn held CLs m p s) := by
    intro f hf hff
    rw [f_74 (by omega) (by omega), stI_n (a := 37) (b := 7) (show 7 ≠ 37 by omega), stI_n (a := 37) (b := 9) (show 9 ≠ 37 by omega), stI_n (a := 37) (b := 9) (show 9 ≠ 37 by omega), stI_n (a := 37) (b := 9) (show 9 ≠ 37 by omega), a3, a4]
    have f37 : ∀ i, i < 6 → (stI (stI (stI (stI (stI (stI σ 37 0 (nI (wn s))) 37 1 (nI f)) 37 2 (nI (xn s))) 37 3 (nI (qn p))) 37 4 (nI m)) 37 5 (nI p)).1 37 i = lt6 (nI (wn s)) (nI f) (nI (xn s)) (nI (qn p)) (nI m) (nI p) i := by
      intro i hi
      rw [stI_e, stI_e, stI_e, stI_e, stI_e, stI_e]
      rcases (show i = 0 ∨ i = 1 ∨ i = 2 ∨ i = 3 ∨ i = 4 ∨ i = 5 by omega) with rfl | rfl | rfl | rfl | rfl | rfl
      · rw [if_neg (by omega), if_neg (by omega), if_neg (by omega), if_neg (by omega), if_neg (by omega), if_pos rfl]; rfl
      · rw [if_neg (by omega), if_neg (by omega), if_neg (by omega), if_neg (by omega), if_pos rfl]; rfl
      · rw [if_neg (by omega), if_neg (by omega), if_neg (by omega), if_pos rfl]; rfl
      · rw [if_neg (by omega), if_neg (by omega), if_pos rfl]; rfl
      · rw [if_neg (by omega), if_pos rfl]; rfl
      · rw [if_pos rfl]; rfl
    have fr0 : FR (wFl sc) σ (stI (stI (stI (stI (stI (stI σ 37 0 (nI (wn s))) 37 1 (nI f)) 37 2 (nI (xn s))) 37 3 (nI (qn p))) 37 4 (nI m)) 37 5 (nI p)) := ((((((stI_fl (by omega)).tr (stI_fl (by omega))).tr (stI_fl (by omega))).tr (stI_fl (by omega))).tr (stI_fl (by omega))).tr (stI_fl (by omega)))
    have n34 : (stI (stI (stI (stI (stI (stI σ 37 0 (nI (wn s))) 37 1 (nI f)) 37 2 (nI (xn s))) 37 3 (nI (qn p))) 37 4 (nI m)) 37 5 (nI p)).1 34 = σ.1 34 := by
      rw [stI_n (by omega), stI_n (by omega), stI_n (by omega), stI_n (by omega), stI_n (by omega), stI_n (by omega)]
    generalize stI (stI (stI (stI (stI (stI σ 37 0 (nI (wn s))) 37 1 (nI f)) 37 2 (nI (xn s))) 37 3 (nI (qn p))) 37 4 (nI m)) 37 5 (nI p) = s1 at *
    rcases H.2.2 with ⟨z1, z2⟩ | ⟨h, z1, z2, z3, z4, z5⟩
    · simp only
      rw [if_pos z2, f37 0 (by omega), f37 1 (by omega)]
      show ∃ σ', s_Likings_fill_148 (nI m) hd _ (nI p) (nI s) (nI (wn s) + nI f) s1 = _ ∧ _
      rw [f_148 hm (by omega) (by omega), nI_add]
      refine ⟨_, rfl, fr0.tr (stI_fl (by omega)), ?_⟩
      unfold stI
      rw [stF_s, n34]
      unfold Lf Lh
      rw [z1, hff]
    · have hd0 : ¬ hd = 0 := by omega
      have z5b : TasteC s1 hd (CLs h) := by
        have e : ∀ b, b = hd ∨ b = hd + 1 → s1.1 b = σ.1 b := fun b hb => funext fun j => fr0.1 b j (by unfold wFl; omega)
        unfold TasteC at z5 ⊢
        rw [e hd (by omega), e (hd + 1) (by omega)]
        exact z5
      obtain ⟨c1, c2, c3, c4, c5, c6⟩ := z5b
      obtain ⟨K', tw⟩ := t_worth (σ := s1) (t := hd) (l := lt6 (nI (wn s)) (nI f) (nI (xn s)) (nI (qn p)) (nI m) (nI p)) (cl := CLs h) ⟨c1, c2, c3, f37⟩ c4 (c5 _)
      simp only
      rw [if_neg hd0, if_pos hd0, tw]
      simp only [xb2]
      rw [f_148 hm (by omega) (by omega)]
      refine ⟨_, rfl, (fr0.tr (stF_fl (by omega))).tr (stI_fl (by omega)), ?_⟩
      unfold stI
      rw [stF_s, stF_n (by omega), n34]
      unfold Lf Lh
      rw [z1, hff]
      rfl
  rw [s_Likings_fill_16]
  unfold s_Likings_fill_16_b
  rw [r1, if_neg (nI_ge hs (by omega)), if_pos i8, if_pos (show ib 0 6 by decide), t8, a1]
  simp only [xl]
  rw [show Int32.toNatClampNeg 0 = 0 by decide, stI_n (a := 37) (b := 4) (by omega), r5, stI_n (a := 37) (b := 6) (by omega), a2, if_pos i8]
  by_cases q : F ≤ m
  · rw [if_pos (nI_le q (by omega))]
    have hmn : mn s < 2 ^ 20 := hmn0 s hs
    exact go (mn s) hmn (by rw [if_neg (by omega)])
  · rw [if_neg (nI_ge (by omega) (by omega)), ← nI_0]
    exact go 0 (by omega) (by rw [if_pos (by omega)])
end
