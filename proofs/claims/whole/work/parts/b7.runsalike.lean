/-! been: runs do not see joys; minutes under another set of goings -/
theorem itr_cg {α : Type} {f g : Nat → α → α} : ∀ (m k n : Nat) (B : α), k + m ≤ n → (∀ e B, e < n → f e B = g e B) → itr f m k B = itr g m k B := by
  intro m
  induction m with
  | zero => intro k n B _ _; rfl
  | succ m ih =>
    intro k n B hk h
    show itr f m (k + 1) (f k B) = itr g m (k + 1) (g k B)
    rw [h k B (by omega)]
    exact ih (k + 1) n _ (by omega) h
section
variable {S P mm n0 ne n eN : Nat} {A B : Nat → Int32} {L : Nat → Nat → Nat → Int32} {σ τ σ' τ' σ0 τ0 : LH} {go ex : Nat → Nat} {y d b v x : Int32} {ln : Nat → Nat → Nat → Nat} {qn sn : Nat → Nat}
theorem aok_min {F : Nat} {A' : Nat → Int32} {v' : Int32} (G : MGo τ S P n0 ne go ex) (hA : AOk S P mm A) (h : mMin L τ S P n0 ne go ex F mm A v = some (A', v')) : AOk S P (mm + 1) A' := by
  have hP8 : P ≤ 8 := G.2.2.2.1
  unfold mMin at h
  cases hu : muA (pickM (L mm) τ S P) F (mHalf (L mm) τ S P n0 ne go ex (A 48) A) v with
  | none => rw [hu] at h; cases h
  | some r =>
    rw [hu] at h
    obtain ⟨C, w⟩ := r
    have hB : AOk S P mm C := muA_ok hP8 F _ _ _ _ hu (AOk.half G hA)
    have hJ : AOk S P mm (itr (mJoy (L mm)) P 0 C) := AOk.itr P 0 P (by omega) (AOk.joy hP8) _ hB
    have h' : some (upd (itr (mJoy (L mm)) P 0 C) 48 (nI (mm + 1)), w) = some (A', v') := h
    injection h' with h'
    have e := congrArg Prod.fst h'
    simp only at e
    rw [← e]
    obtain ⟨j1, j2, j3⟩ := hJ
    refine ⟨fun p hp => ?_, ?_, ?_⟩
    · rw [upd_e, if_neg (by omega)]; exact j1 p hp
    · rw [upd_e, if_pos rfl]
    · rw [upd_e, if_neg (by omega)]; exact j3
theorem je_min {F : Nat} {A' : Nat → Int32} {v' : Int32} (G : MGo τ S P n0 ne go ex) (hA : AOk S P mm A) (hJ : JE S P A B) (h : mMin L τ S P n0 ne go ex F mm A v = some (A', v')) : ∃ B', mMin L τ S P n0 ne go ex F mm B v = some (B', v') ∧ JE S P A' B' := by
  have hP8 : P ≤ 8 := G.2.2.2.1
  have hS8 : S ≤ 8 := G.2.1
  unfold mMin at h ⊢
  cases hu : muA (pickM (L mm) τ S P) F (mHalf (L mm) τ S P n0 ne go ex (A 48) A) v with
  | none => rw [hu] at h; cases h
  | some r =>
    rw [hu] at h
    obtain ⟨C, w⟩ := r
    obtain ⟨D, d1, d2⟩ := je_mu hP8 hS8 F _ (mHalf (L mm) τ S P n0 ne go ex (A 48) B) C v w hu (AOk.half G hA) (hJ.half (fun g hg => (G.2.2.2.2.2.2.1 g hg).2) (fun e he => (G.2.2.2.2.2.2.2.2.2.1 e he).2))
    rw [hJ.m, d1]
    have h' : some (upd (itr (mJoy (L mm)) P 0 C) 48 (nI (mm + 1)), w) = some (A', v') := h
    injection h' with h'
    have e1 := congrArg Prod.fst h'
    have e2 := congrArg Prod.snd h'
    simp only at e1 e2
    refine ⟨upd (itr (mJoy (L mm)) P 0 D) 48 (nI (mm + 1)), by rw [← e2]; rfl, ?_⟩
    rw [← e1]
    exact (je_itr (f := mJoy (L mm)) P 0 P (by omega) (fun k A B hk h => h.joy hP8 hk) _ _ d2).wr
theorem je_run {F : Nat} (G : MGo τ S P n0 ne go ex) : ∀ (r t : Nat) (A B A' : Nat → Int32) (v v' : Int32), AOk S P t A → JE S P A B → mRun L τ S P n0 ne go ex F r t A v = some (A', v') → ∃ B', mRun L τ S P n0 ne go ex F r t B v = some (B', v') ∧ JE S P A' B' := by
  intro r
  induction r with
  | zero =>
    intro t A B A' v v' hA hJ h
    have h' : some (A, v) = some (A', v') := h
    injection h' with h'
    have e1 := congrArg Prod.fst h'
    have e2 := congrArg Prod.snd h'
    simp only at e1 e2
    refine ⟨B, by rw [← e2]; rfl, by rw [← e1]; exact hJ⟩
  | succ r ih =>
    intro t A B A' v v' hA hJ h
    have h' : (mMin L τ S P n0 ne go ex F t A v).bind (fun q => mRun L τ S P n0 ne go ex F r (t + 1) q.1 q.2) = some (A', v') := h
    show ∃ B', (mMin L τ S P n0 ne go ex F t B v).bind (fun q => mRun L τ S P n0 ne go ex F r (t + 1) q.1 q.2) = some (B', v') ∧ JE S P A' B'
    cases hm : mMin L τ S P n0 ne go ex F t A v with
    | none => rw [hm] at h'; cases h'
    | some q =>
      rw [hm] at h'
      obtain ⟨C, w⟩ := q
      obtain ⟨D, d1, d2⟩ := je_min G hA hJ hm
      rw [d1]
      exact ih (t + 1) C D A' w v' (aok_min G hA hm) d2 h'
/-- the same goings for those who leave from a to b -/
def Ag (τ : LH) (n0 a b : Nat) (x x' : Int32) : Prop := ∀ g j, g < n0 → a ≤ j → j < b → τ.1 579 (3 * g + 1) = nI j → (((x >>> (nI g &&& 31)) &&& 1) = 1 ↔ ((x' >>> (nI g &&& 31)) &&& 1) = 1)
def RMb (τ τ' : LH) : Prop := τ'.1 575 = τ.1 575 ∧ τ'.1 577 = τ.1 577 ∧ τ'.1 579 = τ.1 579
theorem Ag.rf {a b : Nat} : Ag τ n0 a b x x := fun _ _ _ _ _ _ => Iff.rfl
theorem Ag.tr {a b : Nat} {x' x'' : Int32} (h : Ag τ n0 a b x x') (h' : Ag τ n0 a b x' x'') : Ag τ n0 a b x x'' := fun g j h1 h2 h3 h4 => (h g j h1 h2 h3 h4).trans (h' g j h1 h2 h3 h4)
theorem Ag.sy {a b : Nat} {x' : Int32} (h : Ag τ n0 a b x x') : Ag τ n0 a b x' x := fun g j h1 h2 h3 h4 => (h g j h1 h2 h3 h4).symm
theorem Ag.lo {a b a' b' : Nat} {x' : Int32} (h : Ag τ n0 a b x x') (h1 : a ≤ a') (h2 : b' ≤ b) : Ag τ n0 a' b' x x' := fun g j g1 g2 g3 g4 => h g j g1 (by omega) (by omega) g4
theorem mMin_hap {F t : Nat} (h : RMb τ τ') (h0 : ne = 0) (hA : A 48 = nI t) (hg : Ag τ n0 t (t + 1) (τ.1 570 39) (τ'.1 570 39)) : mMin L τ' S P n0 ne go ex F t A v = mMin L τ S P n0 ne go ex F t A v := by
  subst h0
  obtain ⟨h1, h2, h3⟩ := h
  have hO : ∀ B, itr (mOut τ' go (A 48)) n0 0 B = itr (mOut τ go (A 48)) n0 0 B := fun B => itr_cg n0 0 n0 B (by omega) (fun g B hgn => by
    unfold mOut
    rw [h3, hA]
    by_cases q : τ.1 579 (3 * g + 1) = nI t
    · have := hg g t hgn (Nat.le_refl t) (by omega) q
      by_cases q2 : ((τ.1 570 39 >>> (nI g &&& 31)) &&& 1) = 1
      · rw [if_pos ⟨this.mp q2, q⟩, if_pos ⟨q2, q⟩]
      · rw [if_neg (fun z => q2 (this.mpr z.1)), if_neg (fun z => q2 z.1)]
    · rw [if_neg (fun z => q z.2), if_neg (fun z => q z.2)])
  have hq : qM τ' = qM τ := by
    show (fun p => τ'.1 577 (4 * p + 1)) = fun p => τ.1 577 (4 * p + 1)
    rw [h2]
  have hp : pickM (L t) τ' S P = pickM (L t) τ S P := by
    show (fun A => mvR (fun s => tkR (L t) (fun p => τ'.1 577 (4 * p + 1)) (fun p => τ'.1 577 (4 * p + 2)) (fun s => τ'.1 575 (3 * s + 2)) s (vw P A) P 0 none 0) (fun s => τ'.1 575 (3 * s)) (vw P A) S 0 none none) = fun A => mvR (fun s => tkR (L t) (fun p => τ.1 577 (4 * p + 1)) (fun p => τ.1 577 (4 * p + 2)) (fun s => τ.1 575 (3 * s + 2)) s (vw P A) P 0 none 0) (fun s => τ.1 575 (3 * s)) (vw P A) S 0 none none
    rw [h1, h2]
  unfold mMin mHalf
  rw [hO, hq, hp]
  rfl
theorem mRun_hap {F : Nat} (h : RMb τ τ') : ∀ (r t : Nat) (A : Nat → Int32) (v : Int32), A 48 = nI t → Ag τ n0 t (t + r) (τ.1 570 39) (τ'.1 570 39) → mRun L τ' S P n0 0 go ex F r t A v = mRun L τ S P n0 0 go ex F r t A v := by
  intro r
  induction r with
  | zero => intro t A v _ _; rfl
  | succ r ih =>
    intro t A v hA hg
    show (mMin L τ' S P n0 0 go ex F t A v).bind (fun q => mRun L τ' S P n0 0 go ex F r (t + 1) q.1 q.2) = (mMin L τ S P n0 0 go ex F t A v).bind (fun q => mRun L τ S P n0 0 go ex F r (t + 1) q.1 q.2)
    rw [mMin_hap h rfl hA (hg.lo (Nat.le_refl t) (by omega))]
    cases hm : mMin L τ S P n0 0 go ex F t A v with
    | none => rw [Option.bind_none, Option.bind_none]
    | some q => exact ih (t + 1) q.1 q.2 (mMin_48 hm) (hg.lo (by omega) (by omega))
end
