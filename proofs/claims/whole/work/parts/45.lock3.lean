/-! class and model: goings -/
theorem q_itr {n : Nat} {Q : Wd → (Nat → Int32) → Prop} {f : Nat → Wd → Wd} {g : Nat → (Nat → Int32) → Nat → Int32} (hst : ∀ k w A, k < n → Q w A → Q (f k w) (g k A)) : ∀ (m k : Nat) (w : Wd) (A : Nat → Int32), k + m ≤ n → Q w A → Q (itr f m k w) (itr g m k A) := by
  intro m
  induction m with
  | zero => intro k w A _ h1; exact h1
  | succ m ih =>
    intro k w A hk h1
    exact ih (k + 1) _ _ (by omega) (hst k w A (by omega) h1)
/-- the log and the moves stay; what was settled is settled only where nothing changed -/
def Kst (w w' : Wd) : Prop := (w' = w ∨ w' 0 10 = -1) ∧ w' 8 = w 8 ∧ w' 0 8 = w 0 8
theorem Kst.rf {w : Wd} : Kst w w := ⟨Or.inl rfl, rfl, rfl⟩
theorem Kst.tr {w w' w'' : Wd} (h : Kst w w') (h' : Kst w' w'') : Kst w w'' := by
  refine ⟨?_, h'.2.1.trans h.2.1, h'.2.2.trans h.2.2⟩
  rcases h'.1 with e | e
  · rw [e]; exact h.1
  · exact Or.inr e
theorem kst_put {p : Nat} {y : Int32} {w : Wd} : Kst w (wPut p y w) := by
  refine ⟨Or.inr ?_, wPut_c (by omega) (by omega) (by omega) (by omega), wPut_0 (by omega)⟩
  unfold wPut
  exact u2_s
theorem kst_rel {s : Nat} {w : Wd} : Kst w (wRel s w) := by
  unfold wRel
  refine ⟨Or.inr u2_s, ?_, ?_⟩
  · rw [u2_c (by omega), u2_c (by omega), u2_c (by omega)]
  · rw [u2_i (by omega), u2_c (by omega), u2_c (by omega)]
theorem kst_up {p : Nat} {d b : Int32} {w : Wd} : Kst w (wUp p d b w) := by
  refine Kst.tr (kst_put (p := p) (y := -2)) ?_
  have e : wPut p (-2) w 0 10 = -1 := by unfold wPut; exact u2_s
  unfold wUp
  split
  · exact ⟨Or.inr (by rw [u2_c (by omega)]; exact e), u2_c (by omega), by rw [u2_c (by omega)]⟩
  · refine ⟨Or.inr ?_, ?_, ?_⟩
    · rw [u2_c (by omega), u2_c (by omega), u2_c (by omega)]; exact e
    · rw [u2_c (by omega), u2_c (by omega), u2_c (by omega)]
    · rw [u2_c (by omega), u2_c (by omega), u2_c (by omega)]
/-- from w0, A0 on, in minute mm, behind the releases -/
def QQ (S P mm : Nat) (w0 : Wd) (A0 : Nat → Int32) (w : Wd) (A : Nat → Int32) : Prop := Rw S P w A ∧ WI S P mm A ∧ NK S mm A ∧ Kst w0 w ∧ ∀ j, 49 ≤ j → A j = A0 j
theorem mUp_hi {p : Nat} {d b : Int32} {A : Nat → Int32} {j : Nat} (hp : p < 8) (hx : plc 8 (A (4 * p))) (hj : 49 ≤ j) : mUp p d b A j = A j := by
  unfold mUp
  split
  · rw [pk_un (by omega), pk_un (by omega)]
  · rename_i q
    rcases hx with e | e | ⟨s, hs, e⟩
    · exact absurd (Or.inl (by rw [e]; decide)) q
    · exact absurd (Or.inl (by rw [e]; decide)) q
    · rw [e, nI_clamp (show s < 2 ^ 31 by omega), pk_un (by omega), pk_un (by omega), pk_un (by omega), pk_un (by omega)]
theorem NK.up {S P mm p : Nat} {d b : Int32} {A : Nat → Int32} (h : NK S mm A) (hW : WI S P mm A) (hS8 : S ≤ 8) (hP8 : P ≤ 8) (hm : mm < 101) (hp : p < P) : NK S mm (mUp p d b A) := by
  intro s hs
  obtain ⟨k, hk9, hk⟩ := hW.2.2.1 p hp
  have e48 : A 48 = nI mm := hW.1.2.1
  unfold mUp
  split
  · rw [pk_un (by omega), pk_un (by omega)]; exact h s hs
  · rename_i q
    rcases hW.1.1 p hp with e | e | ⟨s0, hs0, e⟩
    · exact absurd (Or.inl (by rw [e]; decide)) q
    · exact absurd (Or.inl (by rw [e]; decide)) q
    · rw [e, nI_clamp (show s0 < 2 ^ 31 by omega)]
      by_cases e2 : s = s0
      · subst e2
        rw [pk_us, e48, hk, nI_add]
        intro z
        have := nI_ij (by omega) (by omega) z
        have k0 : k = 0 := by omega
        exact q (Or.inr (Or.inr (by rw [hk, k0]; rfl)))
      · rw [pk_un (by omega), pk_un (by omega), pk_un (by omega), pk_un (by omega)]; exact h s hs
theorem st_go1 {S P mm p d : Nat} {w0 w : Wd} {A0 A : Nat → Int32} (hS8 : S ≤ 8) (hP8 : P ≤ 8) (hm : mm < 101) (hp : p < P) (hd : d < 100) (h : QQ S P mm w0 A0 w A) : QQ S P mm w0 A0 (wGo1 p (nI d) w) (mGo1 p (nI d) A) := by
  obtain ⟨hR, hW, hN, hK, hA⟩ := h
  obtain ⟨k, hk9, hk⟩ := hW.2.2.1 p hp
  unfold wGo1 mGo1
  rw [hR.c1 p hp]
  by_cases q : A (4 * p) = -2
  · rw [if_pos q, if_pos q]; exact ⟨hR, hW, hN, hK, hA⟩
  · rw [if_neg q, if_neg q]
    exact ⟨hR.up hS8 hP8 hp (hW.1.1 p hp) hk hk9, hW.up hR hS8 hP8 hm hp hd, hN.up hW hS8 hP8 hm hp, hK.tr kst_up, fun j hj => (mUp_hi (by omega) (plc8 hS8 (hW.1.1 p hp)) hj).trans (hA j hj)⟩
/-- the goings told stand alike -/
def GL (τ : LH) (lv ls : Nat → Int32) (hap : Int32) (n0 : Nat) : Prop := ∀ g, g < n0 → lv g = τ.1 579 (3 * g + 1) ∧ ls g = τ.1 579 (3 * g + 2) ∧ (∃ d, d < 100 ∧ ls g = nI d) ∧ (hbit hap g ↔ ((τ.1 570 39 >>> (nI g &&& 31)) &&& 1) = 1) ∧ ∃ l, l < 100 ∧ lv g = nI l
theorem st_out {τ : LH} {lv ls : Nat → Int32} {hap : Int32} {n0 S P mm : Nat} {go : Nat → Nat} {w0 : Wd} {A0 : Nat → Int32} (hS8 : S ≤ 8) (hP8 : P ≤ 8) (hm : mm < 101) (hG : GL τ lv ls hap n0) (hgo : ∀ g, g < n0 → go g < P) : ∀ g w A, g < n0 → QQ S P mm w0 A0 w A → QQ S P mm w0 A0 (wOutF lv ls go hap g w) (mOut τ go (nI mm) g A) := by
  intro g w A hg h
  obtain ⟨e1, e2, ⟨d, hd, e3⟩, e4, -⟩ := hG g hg
  have e48 : w 0 7 = nI mm := h.1.m.trans h.2.1.1.2.1
  unfold wOutF mOut
  rw [e48, ← e1, ← e2, e3]
  by_cases q : lv g = nI mm ∧ hbit hap g
  · rw [if_pos q, if_pos ⟨e4.mp q.2, q.1⟩]
    exact st_go1 hS8 hP8 hm (hgo g hg) hd h
  · rw [if_neg q, if_neg (fun z => q ⟨z.2, e4.mpr z.1⟩)]
    exact h
/-- one going more stands alike -/
def EL (τ : LH) (who : Option Nat) (lv ls : Int32) (ne : Nat) (ex : Nat → Nat) : Prop := (who = none ∧ ne = 0) ∨ ∃ p d, who = some p ∧ ne = 1 ∧ ex 0 = p ∧ τ.1 588 0 = lv ∧ τ.1 589 0 = ls ∧ ls = nI d ∧ d < 100
theorem st_ex {τ : LH} {who : Option Nat} {lv ls : Int32} {ne S P mm : Nat} {ex : Nat → Nat} {w0 w : Wd} {A0 A : Nat → Int32} (hS8 : S ≤ 8) (hP8 : P ≤ 8) (hm : mm < 101) (hE : EL τ who lv ls ne ex) (hex : ∀ e, e < ne → ex e < P) (h : QQ S P mm w0 A0 w A) : QQ S P mm w0 A0 (wMoreF who lv ls w) (itr (mEx τ ex (nI mm)) ne 0 A) := by
  have e48 : w 0 7 = nI mm := h.1.m.trans h.2.1.1.2.1
  rcases hE with ⟨rfl, rfl⟩ | ⟨p, d, rfl, rfl, e1, e2, e3, e4, e5⟩
  · exact h
  · show QQ S P mm w0 A0 (if lv = w 0 7 then wGo1 p ls w else w) (mEx τ ex (nI mm) 0 A)
    unfold mEx
    rw [e48, e2, e3, e1, e4]
    have hp : p < P := by have := hex 0 (by omega); omega
    by_cases q : lv = nI mm
    · rw [if_pos q, if_pos q]; exact st_go1 hS8 hP8 hm hp e5 h
    · rw [if_neg q, if_neg q]; exact h
theorem st_rel2 {S P mm : Nat} {w0 w : Wd} {A0 A : Nat → Int32} (hS8 : S ≤ 8) (hP8 : P ≤ 8) (hm : mm < 101) (hR : Rw S P w A) (hW : WI S P mm A) : QQ S P mm w A (itr wRelF S 0 w) (itr (mRl (nI mm)) S 0 A) := by
  have := q_itr (n := S) (Q := fun w' A' => Rw S P w' A' ∧ WI S P mm A' ∧ Kst w w' ∧ ∀ j, 49 ≤ j → A' j = A j) (f := wRelF) (g := mRl (nI mm)) (fun k w' A' hk h => by
    obtain ⟨h1, h2, h3, h4⟩ := h
    obtain ⟨g1, g2⟩ := st_rel hS8 hP8 hm h1 h2 hk
    refine ⟨g1, g2, h3.tr ?_, fun j hj => ?_⟩
    · unfold wRelF
      split
      · exact kst_rel
      · exact Kst.rf
    · unfold mRl
      split
      · rw [mRel_o (by omega) (by omega)]; exact h4 j hj
      · exact h4 j hj) S 0 w A (by omega) ⟨hR, hW, Kst.rf, fun _ _ => rfl⟩
  exact ⟨this.1, this.2.1, nk_rel hS8 hm S 0 A (by omega) (fun s hs => by omega), this.2.2.1, this.2.2.2⟩
