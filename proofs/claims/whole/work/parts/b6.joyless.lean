/-! been: minutes do not see joys nor what was logged -/
def JK (S P j : Nat) : Prop := (j < 4 * P ∧ j % 4 ≠ 3) ∨ (32 ≤ j ∧ j < 32 + 2 * S) ∨ j = 48
def JE (S P : Nat) (A B : Nat → Int32) : Prop := ∀ j, JK S P j → B j = A j
section
variable {S P mm n0 ne p k : Nat} {A B : Nat → Int32} {L : Nat → Nat → Int32} {τ : LH} {go ex : Nat → Nat} {y d b v : Int32}
theorem JE.wr {i : Nat} {v : Int32} (h : JE S P A B) : JE S P (upd A i v) (upd B i v) := by
  intro j hj
  rw [upd_e, upd_e]
  by_cases q : j = i
  · rw [if_pos q, if_pos q]
  · rw [if_neg q, if_neg q]
    exact h j hj
theorem JE.c (h : JE S P A B) {p i : Nat} (hp : p < P) (hi : i < 3) : B (4 * p + i) = A (4 * p + i) := h _ (by unfold JK; omega)
theorem JE.c0 (h : JE S P A B) {p : Nat} (hp : p < P) : B (4 * p) = A (4 * p) := h _ (by unfold JK; omega)
theorem JE.s (h : JE S P A B) {s i : Nat} (hs : s < S) (hi : i < 2) : B (32 + 2 * s + i) = A (32 + 2 * s + i) := h _ (by unfold JK; omega)
theorem JE.s0 (h : JE S P A B) {s : Nat} (hs : s < S) : B (32 + 2 * s) = A (32 + 2 * s) := h _ (by unfold JK; omega)
theorem JE.m (h : JE S P A B) : B 48 = A 48 := h _ (by unfold JK; omega)
theorem JE.goes (h : JE S P A B) (hp : p < P) : JE S P (mUp p d b A) (mUp p d b B) := by
  unfold mUp
  rw [h.c0 hp, h.c (i := 2) hp (by omega), h.m]
  split
  · exact h.wr.wr
  · exact h.wr.wr.wr.wr
theorem JE.go1 (h : JE S P A B) (hp : p < P) : JE S P (mGo1 p d A) (mGo1 p d B) := by
  unfold mGo1
  rw [h.c0 hp]
  split
  · exact h
  · exact h.goes hp
theorem JE.rel {s : Nat} (h : JE S P A B) : JE S P (mRel s A) (mRel s B) := h.wr.wr
theorem JE.rl (h : JE S P A B) (hk : k < S) : JE S P (mRl y k A) (mRl y k B) := by
  unfold mRl
  rw [h.s (i := 1) hk (by omega)]
  split
  · exact h.rel
  · exact h
theorem JE.out (h : JE S P A B) (hg : go k < P) : JE S P (mOut τ go y k A) (mOut τ go y k B) := by
  unfold mOut
  split
  · exact h.go1 hg
  · exact h
theorem JE.xt (h : JE S P A B) (hg : ex k < P) : JE S P (mEx τ ex y k A) (mEx τ ex y k B) := by
  unfold mEx
  split
  · exact h.go1 hg
  · exact h
theorem je_so {x : Int32} (h : JE S P A B) : ∀ m k, k + m ≤ P → soR B x m k = soR A x m k := by
  intro m
  induction m with
  | zero => intro k _; rfl
  | succ m ih =>
    intro k hk
    show (if B (4 * k) = x then nI k else soR B x m (k + 1)) = if A (4 * k) = x then nI k else soR A x m (k + 1)
    rw [h.c0 (by omega), ih (k + 1) (by omega)]
theorem je_kf {x : Int32} (h : JE S P A B) : ∀ m k, k + m ≤ S → kfR B x m k = kfR A x m k := by
  intro m
  induction m with
  | zero => intro k _; rfl
  | succ m ih =>
    intro k hk
    show (if B (32 + 2 * k) = x then nI k else kfR B x m (k + 1)) = if A (32 + 2 * k) = x then nI k else kfR A x m (k + 1)
    rw [h.s0 (by omega), ih (k + 1) (by omega)]
theorem je_bc {l : Nat → Int32} (h : JE S P A B) : ∀ m k b mo, k + m ≤ S → bcR l P B m k b mo = bcR l P A m k b mo := by
  intro m
  induction m with
  | zero => intro k b mo _; rfl
  | succ m ih =>
    intro k b mo hk
    show (if (soR B (nI k) P 0 = -1 ∧ B (32 + 2 * k) = -1) ∧ mo < l k then bcR l P B m (k + 1) (nI k) (l k) else bcR l P B m (k + 1) b mo) = if (soR A (nI k) P 0 = -1 ∧ A (32 + 2 * k) = -1) ∧ mo < l k then bcR l P A m (k + 1) (nI k) (l k) else bcR l P A m (k + 1) b mo
    rw [h.s0 (by omega), je_so h P 0 (by omega), ih (k + 1) _ _ (by omega), ih (k + 1) _ _ (by omega)]
theorem JE.back (h : JE S P A B) : JE S P (mBack L S P p A) (mBack L S P p B) := by
  have h1 : JE S P (upd A (4 * p + 1) (-1)) (upd B (4 * p + 1) (-1)) := h.wr
  unfold mBack
  rw [je_kf h1 S 0 (by omega), je_bc h1 S 0 _ _ (by omega)]
  split
  · exact h1.wr
  · exact h1.rel.wr
theorem JE.bk {q : Nat → Int32} (h : JE S P A B) (hk : k < P) : JE S P (mBk L S P q y k A) (mBk L S P q y k B) := by
  unfold mBk
  rw [h.c0 hk, h.c (i := 1) hk (by omega), h.m]
  split
  · exact h.back
  · exact h
theorem je_itr {f : Nat → (Nat → Int32) → Nat → Int32} : ∀ (m k n : Nat), k + m ≤ n → (∀ k A B, k < n → JE S P A B → JE S P (f k A) (f k B)) → ∀ A B, JE S P A B → JE S P (itr f m k A) (itr f m k B) := by
  intro m
  induction m with
  | zero => intro k n _ _ A B h; exact h
  | succ m ih =>
    intro k n hk hf A B h
    exact ih (k + 1) n (by omega) hf _ _ (hf k A B (by omega) h)
theorem JE.bkO {q : Nat → Int32} : ∀ (n : Nat) (A B : Nat → Int32), JE S P A B → JE S P (bkO L S P q n A) (bkO L S P q n B) := by
  intro n
  induction n with
  | zero => intro A B h; exact h
  | succ n ih => intro A B h; exact ih _ _ (je_itr (f := mBk L S P q (nI n)) P 0 P (by omega) (fun k A B hk h => h.bk hk) A B h)
theorem JE.half (h : JE S P A B) (hgo : ∀ g, g < n0 → go g < P) (hex : ∀ e, e < ne → ex e < P) : JE S P (mHalf L τ S P n0 ne go ex y A) (mHalf L τ S P n0 ne go ex y B) :=
  JE.bkO 10 _ _ (je_itr (f := mEx τ ex y) ne 0 ne (by omega) (fun k A B hk h => h.xt (hex k hk)) _ _ (je_itr (f := mOut τ go y) n0 0 n0 (by omega) (fun k A B hk h => h.out (hgo k hk)) _ _ (je_itr (f := mRl y) S 0 S (by omega) (fun k A B hk h => h.rl hk) _ _ h)))
theorem JE.move {s g g' : Nat} (h : JE S P A B) (hP8 : P ≤ 8) (hS8 : S ≤ 8) : JE S P (mMove p s g A) (mMove p s g' B) := by
  intro j hj
  have hj' := hj
  unfold JK at hj
  rw [mMove_lo (by omega), mMove_lo (by omega), h j hj']
theorem JE.joy (h : JE S P A B) (hP8 : P ≤ 8) (hk : k < P) : JE S P (mJoy L k A) (mJoy L k B) := by
  unfold mJoy
  rw [h.c0 hk]
  split
  · exact h
  · intro j hj
    have hj' := hj
    unfold JK at hj
    rw [upd_e, upd_e, if_neg (by omega), if_neg (by omega)]
    exact h j hj'
theorem JE.pick (h : JE S P A B) (hS8 : S ≤ 8) (hx : ∀ p, p < P → plc S (A (4 * p))) : pickM L τ S P B = pickM L τ S P A :=
  mvR_cg (fun s hs => tkR_cg (fun _ _ _ _ => rfl) (fun _ _ => rfl) (fun _ _ => rfl) (fun _ _ => rfl) (fun p hp => h.c0 hp) hx hS8 hs P 0 none 0 (by omega) (fun j hj => by cases hj)) (fun _ _ => rfl) (fun s hs => je_so h P 0 (by omega)) (fun s hs => h.s0 hs) S 0 none none (by omega) (fun j hj => by cases hj)
theorem je_mu (hP8 : P ≤ 8) (hS8 : S ≤ 8) : ∀ (m : Nat) (A B A' : Nat → Int32) (v v' : Int32), muA (pickM L τ S P) m A v = some (A', v') → AOk S P mm A → JE S P A B → ∃ B', muA (pickM L τ S P) m B v = some (B', v') ∧ JE S P A' B' := by
  intro m
  induction m with
  | zero => intro A B A' v v' h _ _; cases h
  | succ m ih =>
    intro A B A' v v' h hA hJ
    unfold muA at h ⊢
    rw [hJ.pick hS8 hA.1]
    cases hp : pickM L τ S P A with
    | mk s' t' =>
      rw [hp] at h
      cases s' with
      | none => cases h; exact ⟨B, rfl, hJ⟩
      | some s =>
        cases t' with
        | none => cases h; exact ⟨B, rfl, hJ⟩
        | some t =>
          obtain ⟨a1, a2, -⟩ := pickM_in hp
          exact ih _ _ A' (v + 1) v' h (hA.move a2 hP8 a1) (hJ.move hP8 hS8)
end
