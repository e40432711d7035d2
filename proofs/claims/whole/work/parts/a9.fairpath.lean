/-! fair: goings one by one in the class, all at once in the model -/
def RMo (τ τ' : LH) : Prop := τ'.1 575 = τ.1 575 ∧ τ'.1 577 = τ.1 577 ∧ τ'.1 579 = τ.1 579 ∧ τ'.1 570 39 = τ.1 570 39
def EXs (τ : LH) (ord : Nat → Nat) (ne mm d : Nat) : Prop := ∀ e, e < ne → τ.1 588 e = nI (mm + e) ∧ τ.1 589 e = nI d ∧ τ.1 587 e = nI (ord e)
section
variable {I : LH → Prop} {σ τ σ' τ' σ0 τ0 : LH} {S P n0 n E mm M d k : Nat} {go ord ord' : Nat → Nat} {L : Nat → Nat → Nat → Int32} {ln : Nat → Nat → Nat → Nat} {qn sn : Nat → Nat}
theorem mMin_cg {ne ne' F : Nat} {ex ex' : Nat → Nat} {A : Nat → Int32} {v : Int32} (h : RMo τ τ') (hx : ∀ B, itr (mEx τ' ex' (A 48)) ne' 0 B = itr (mEx τ ex (A 48)) ne 0 B) : mMin L τ' S P n0 ne' go ex' F mm A v = mMin L τ S P n0 ne go ex F mm A v := by
  obtain ⟨h1, h2, h3, h4⟩ := h
  have hO : mOut τ' go (A 48) = mOut τ go (A 48) := by
    funext g B
    unfold mOut
    rw [h3, h4]
  have hq : qM τ' = qM τ := by
    show (fun p => τ'.1 577 (4 * p + 1)) = fun p => τ.1 577 (4 * p + 1)
    rw [h2]
  have hp : pickM (L mm) τ' S P = pickM (L mm) τ S P := by
    show (fun A => mvR (fun s => tkR (L mm) (fun p => τ'.1 577 (4 * p + 1)) (fun p => τ'.1 577 (4 * p + 2)) (fun s => τ'.1 575 (3 * s + 2)) s (vw P A) P 0 none 0) (fun s => τ'.1 575 (3 * s)) (vw P A) S 0 none none) = fun A => mvR (fun s => tkR (L mm) (fun p => τ.1 577 (4 * p + 1)) (fun p => τ.1 577 (4 * p + 2)) (fun s => τ.1 575 (3 * s + 2)) s (vw P A) P 0 none 0) (fun s => τ.1 575 (3 * s)) (vw P A) S 0 none none
    rw [h1, h2]
  unfold mMin mHalf
  rw [hO, hx, hq, hp]
theorem itr_no {α : Type} {f : Nat → α → α} : ∀ (m k : Nat) (B : α), (∀ e B, k ≤ e → e < k + m → f e B = B) → itr f m k B = B := by
  intro m
  induction m with
  | zero => intro k B _; rfl
  | succ m ih =>
    intro k B h
    show itr f m (k + 1) (f k B) = B
    rw [h k B (by omega) (by omega)]
    exact ih (k + 1) B (fun e B h1 h2 => h e B (by omega) (by omega))
theorem itr_at {α : Type} {f : Nat → α → α} {j : Nat} : ∀ (m k : Nat) (B : α), k ≤ j → j < k + m → (∀ e B, e ≠ j → k ≤ e → e < k + m → f e B = B) → itr f m k B = f j B := by
  intro m
  induction m with
  | zero => intro k B h1 h2; omega
  | succ m ih =>
    intro k B h1 h2 h
    show itr f m (k + 1) (f k B) = f j B
    by_cases q : k = j
    · subst q
      exact itr_no m (k + 1) _ (fun e B h3 h4 => h e B (by omega) (by omega) (by omega))
    · rw [h k B q (by omega) (by omega)]
      exact ih (k + 1) B (by omega) (by omega) (fun e B h3 h4 h5 => h e B h3 (by omega) (by omega))
theorem ex_at {ne : Nat} {B : Nat → Int32} (h : EXs τ ord ne mm d) (hk : k < ne) (hm : mm + ne < 1000) : itr (mEx τ ord (nI (mm + k))) ne 0 B = mGo1 (ord k) (nI d) B := by
  rw [itr_at (j := k) ne 0 B (by omega) (by omega) (fun e B h1 h2 h3 => by
    unfold mEx
    rw [(h e (by omega)).1, if_neg (fun z => h1 (by have := nI_ij (by omega) (by omega) z; omega))])]
  unfold mEx
  rw [(h k hk).1, if_pos rfl, (h k hk).2.1]
theorem ex_no {ne t : Nat} {B : Nat → Int32} (h : EXs τ ord ne mm d) (ht : mm + ne ≤ t) (ht2 : t < 1000) : itr (mEx τ ord (nI t)) ne 0 B = B :=
  itr_no ne 0 B (fun e B h1 h2 => by
    unfold mEx
    rw [(h e (by omega)).1, if_neg (fun z => by have := nI_ij (by omega) (by omega) z; omega)])
theorem mRun_app {ne F : Nat} {ex : Nat → Nat} : ∀ (a b mm : Nat) (A : Nat → Int32) (v : Int32), mRun L τ S P n0 ne go ex F (a + b) mm A v = (mRun L τ S P n0 ne go ex F a mm A v).bind fun r => mRun L τ S P n0 ne go ex F b (mm + a) r.1 r.2 := by
  intro a
  induction a with
  | zero => intro b mm A v; rw [Nat.zero_add]; rfl
  | succ a ih =>
    intro b mm A v
    rw [show a + 1 + b = (a + b) + 1 by omega]
    show (mMin L τ S P n0 ne go ex F mm A v).bind _ = ((mMin L τ S P n0 ne go ex F mm A v).bind _).bind _
    cases mMin L τ S P n0 ne go ex F mm A v with
    | none => rfl
    | some r =>
      show mRun L τ S P n0 ne go ex F (a + b) (mm + 1) r.1 r.2 = (mRun L τ S P n0 ne go ex F a (mm + 1) r.1 r.2).bind _
      rw [ih, show mm + 1 + a = mm + (a + 1) by omega]
/-- minutes with no going more are the same, whatever goings were before -/
theorem mRun_cg {ne : Nat} (h : RMo τ τ') (hx : EXs τ' ord ne mm d) : ∀ (r t : Nat) (A A' : Nat → Int32) (v v' : Int32), mm + ne ≤ t → t + r < 1000 → A 48 = nI t → mRun L τ S P n0 0 go (fun _ => 0) 1000 r t A v = some (A', v') → (∀ t A A' v v', A 48 = nI t → mMin L τ S P n0 0 go (fun _ => 0) 1000 t A v = some (A', v') → A' 48 = nI (t + 1)) → mRun L τ' S P n0 ne go ord 1000 r t A v = some (A', v') := by
  intro r
  induction r with
  | zero => intro t A A' v v' h1 h2 h3 h4 _; exact h4
  | succ r ih =>
    intro t A A' v v' h1 h2 h3 h4 hs
    have e : mMin L τ' S P n0 ne go ord 1000 t A v = mMin L τ S P n0 0 go (fun _ => 0) 1000 t A v := mMin_cg h (fun B => by rw [h3, ex_no hx h1 (by omega)]; rfl)
    have h4' : (mMin L τ S P n0 0 go (fun _ => 0) 1000 t A v).bind (fun q => mRun L τ S P n0 0 go (fun _ => 0) 1000 r (t + 1) q.1 q.2) = some (A', v') := h4
    show (mMin L τ' S P n0 ne go ord 1000 t A v).bind (fun q => mRun L τ' S P n0 ne go ord 1000 r (t + 1) q.1 q.2) = _
    rw [e]
    cases hm : mMin L τ S P n0 0 go (fun _ => 0) 1000 t A v with
    | none => rw [hm] at h4'; cases h4'
    | some q =>
      rw [hm] at h4'
      exact ih (t + 1) q.1 A' q.2 v' (by omega) (by omega) (hs t A q.1 v q.2 h3 hm) h4' hs
theorem mMin_48 {ne F t : Nat} {ex : Nat → Nat} {A A' : Nat → Int32} {v v' : Int32} (h : mMin L τ S P n0 ne go ex F t A v = some (A', v')) : A' 48 = nI (t + 1) := by
  unfold mMin at h
  cases hu : muA (pickM (L t) τ S P) F (mHalf (L t) τ S P n0 ne go ex (A 48) A) v with
  | none => rw [hu] at h; cases h
  | some r =>
    rw [hu] at h
    have h' : some (upd (itr (mJoy (L t)) P 0 r.1) 48 (nI (t + 1)), r.2) = some (A', v') := h
    injection h' with h'
    have e := congrArg Prod.fst h'
    simp only at e
    rw [← e, upd_e, if_pos rfl]
/-- the block of the class after k minutes, one going each -/
def PIx (L : Nat → Nat → Nat → Int32) (σ0 τ0 : LH) (S P n n0 mm M d : Nat) (go : Nat → Nat) (ord : Nat → Nat) (k : Nat) (w : Wd) : Prop := ∀ (τ' : LH) (ne : Nat), k ≤ ne → ne ≤ 8 → RMo τ0 τ' → EXs τ' ord ne mm d → ∀ (A : Nat → Int32) (v : Int32), HR σ0 S P n mm M (gH σ0 39) A → ∃ A' dd, dd ≤ 1000 * k ∧ mRun L τ' S P n0 ne go ord 1000 k mm A v = some (A', v + nI dd) ∧ HR σ0 S P n (mm + k) (M + dd) w A'
theorem PIx.zero {w : Wd} (we : WE (gH σ0 39) w) (hS8 : S ≤ 8) (hP8 : P ≤ 8) : PIx L σ0 τ0 S P n n0 mm M d go ord 0 w := by
  intro τ' ne h1 h2 h3 h4 A v hH
  refine ⟨A, 0, by omega, ?_, hH.cp we hS8 hP8 (fun _ _ => rfl)⟩
  show some (A, v) = some (A, v + nI 0)
  rw [nI_0, Int32.add_zero]
theorem mRun_same {τ1 τ2 : LH} {ne ne' : Nat} (rm : RMo τ2 τ1) (x1 : EXs τ1 ord ne mm d) (x2 : EXs τ2 ord' ne' mm d) (h1 : k ≤ ne) (h2 : k ≤ ne') (h3 : ne ≤ 8) (h4 : ne' ≤ 8) (hm : mm + 8 < 1000) (ho : ∀ i, i < k → ord' i = ord i) : ∀ (r t : Nat) (A : Nat → Int32) (v : Int32), t + r = k → A 48 = nI (mm + t) → mRun L τ1 S P n0 ne go ord 1000 r (mm + t) A v = mRun L τ2 S P n0 ne' go ord' 1000 r (mm + t) A v := by
  intro r
  induction r with
  | zero =>
    intro t A v ht h48
    show some (A, v) = some (A, v)
    rfl
  | succ r ih =>
    intro t A v ht h48
    have e : mMin L τ1 S P n0 ne go ord 1000 (mm + t) A v = mMin L τ2 S P n0 ne' go ord' 1000 (mm + t) A v := mMin_cg rm (fun B => by rw [h48, ex_at x1 (show t < ne by omega) (by omega), ex_at x2 (show t < ne' by omega) (by omega), ho t (by omega)])
    show (mMin L τ1 S P n0 ne go ord 1000 (mm + t) A v).bind (fun q => mRun L τ1 S P n0 ne go ord 1000 r (mm + t + 1) q.1 q.2) = (mMin L τ2 S P n0 ne' go ord' 1000 (mm + t) A v).bind (fun q => mRun L τ2 S P n0 ne' go ord' 1000 r (mm + t + 1) q.1 q.2)
    rw [e]
    cases hq : mMin L τ2 S P n0 ne' go ord' 1000 (mm + t) A v with
    | none =>
      rw [Option.bind_none, Option.bind_none]
    | some q =>
      have h48' : q.1 48 = nI (mm + (t + 1)) := by
        rw [show mm + (t + 1) = mm + t + 1 by omega]
        exact mMin_48 hq
      have := ih (t + 1) q.1 q.2 (by omega) h48'
      rw [show mm + (t + 1) = mm + t + 1 by omega] at this
      exact this
theorem exs_any (ord : Nat → Nat) (k mm d : Nat) : ∃ τ2, RMo τ0 τ2 ∧ EXs τ2 ord k mm d := by
  refine ⟨stF (stF (stF τ0 588 (fun e => nI (mm + e))) 589 (fun _ => nI d)) 587 (fun e => nI (ord e)), ⟨?_, ?_, ?_, ?_⟩, fun e he => ⟨?_, ?_, ?_⟩⟩
  · rw [stF_n (by omega), stF_n (by omega), stF_n (by omega)]
  · rw [stF_n (by omega), stF_n (by omega), stF_n (by omega)]
  · rw [stF_n (by omega), stF_n (by omega), stF_n (by omega)]
  · rw [stF_n (by omega), stF_n (by omega), stF_n (by omega)]
  · rw [stF_n (by omega), stF_n (by omega), stF_s]
  · rw [stF_n (by omega), stF_s]
  · rw [stF_s]
theorem RMo.tr2 {τ1 τ2 : LH} (h1 : RMo τ0 τ1) (h2 : RMo τ0 τ2) : RMo τ2 τ1 := ⟨h1.1.trans h2.1.symm, h1.2.1.trans h2.2.1.symm, h1.2.2.1.trans h2.2.2.1.symm, h1.2.2.2.trans h2.2.2.2.symm⟩
theorem PIx.cg {w : Wd} (h : PIx L σ0 τ0 S P n n0 mm M d go ord k w) (ho : ∀ i, i < k → ord' i = ord i) (hm : mm + 8 < 1000) : PIx L σ0 τ0 S P n n0 mm M d go ord' k w := by
  intro τ' ne h1 h2 h3 h4 A v hH
  obtain ⟨τ2, r1, r2⟩ := exs_any (τ0 := τ0) ord k mm d
  obtain ⟨A', dd, d1, d2, d3⟩ := h τ2 k (Nat.le_refl k) (by omega) r1 r2 A v hH
  have h48 : A 48 = nI (mm + 0) := by
    rw [Nat.add_zero]
    exact hH.2.1.1.2.1
  have := mRun_same (L := L) (S := S) (P := P) (n0 := n0) (go := go) (r1.tr2 h3) r2 h4 (Nat.le_refl k) h1 (by omega) h2 hm ho k 0 A v (by omega) h48
  rw [Nat.add_zero] at this
  refine ⟨A', dd, d1, ?_, d3⟩
  rw [← this]
  exact d2
/-- a minute more in the class, one going -/
theorem PIx.step {h : Nat} {w w' : Wd} {p : Nat} (hI : PIx L σ0 τ0 S P n n0 mm M d go ord k w) (X : QX I σ τ0 S P n0 n E go L ln qn sn mm M) (X0 : QX I σ0 τ0 S P n0 n E go L ln qn sn mm M) (hw : WE w w') (h39 : 39 ≤ h) (hp : p < P) (hd : d < 100) (hk : mm + k < E) (ho : ord k = p) (hk8 : k < 8) (hlo : ∀ b, b = 5 ∨ b = 7 ∨ b = 9 ∨ b = 10 ∨ b = 34 → σ.1 b = σ0.1 b) : ∃ w2, s_Evening_pass h (sH (sE σ (nI p) (nI (mm + k)) (nI d)) h w') = some (sH (sE σ (nI p) (nI (mm + k)) (nI d)) h w2) ∧ PIx L σ0 τ0 S P n n0 mm M d go ord (k + 1) w2 := by
  have hS8 := X.S8
  have hP8 := X.P8
  have hE := X.e100
  have hM := X.M1
  have hmE := X.mE
  obtain ⟨e1, e2, e3, e4⟩ := sE_3 (σ := σ) (x := nI p) (y := nI (mm + k)) (d := nI d)
  obtain ⟨f1, f2, f3, f4⟩ := mE_4 (τ := τ0) (x := nI p) (y := nI (mm + k)) (d := nI d)
  have fE : FT scM τ0 (mE τ0 (nI p) (nI (mm + k)) (nI d)) := FT.mE
  have f39 : (mE τ0 (nI p) (nI (mm + k)) (nI d)).1 570 39 = τ0.1 570 39 := mE_f (by omega)
  have frm : RMo τ0 (mE τ0 (nI p) (nI (mm + k)) (nI d)) := ⟨mE_n (by omega) (by omega), mE_n (by omega) (by omega), mE_n (by omega) (by omega), f39⟩
  obtain ⟨τb, hτb⟩ : ∃ t, t = mE τ0 (nI p) (nI (mm + k)) (nI d) := ⟨_, rfl⟩
  rw [← hτb] at f1 f2 f3 f4 fE f39 frm
  have K2 : LK (sE σ (nI p) (nI (mm + k)) (nI d)) τb S P n0 1 n (E + 1) go (fun _ => p) (some p) L ln qn sn := X.1.q FR.sE fE e1 f39 e2 (fun q hq => by cases hq; exact hp) f1 (by omega) (fun e he => by
    have : e = 0 := by omega
    subst this
    exact ⟨f2, hp⟩) (Or.inr ⟨p, d, rfl, rfl, rfl, by rw [f3, e3], by rw [f4, e4], e4, hd⟩)
  have lo : ∀ b, b = 5 ∨ b = 7 ∨ b = 9 ∨ b = 10 ∨ b = 34 → (sE σ (nI p) (nI (mm + k)) (nI d)).1 b = σ0.1 b := fun b hb => by rw [sE_n (by omega)]; exact hlo b hb
  -- from any world that stands for the block
  have one : ∀ (A : Nat → Int32) (M1 : Nat) (v : Int32), M1 ≤ M + 1000 * k → HR σ0 S P n (mm + k) M1 w A → ∃ w2 A2 d2, d2 ≤ 1000 ∧ s_Evening_pass h (sH (sE σ (nI p) (nI (mm + k)) (nI d)) h w') = some (sH (sE σ (nI p) (nI (mm + k)) (nI d)) h w2) ∧ mMin L τb S P n0 1 go (fun _ => p) 1000 (mm + k) A v = some (A2, v + nI d2) ∧ HR σ0 S P n (mm + k + 1) (M1 + d2) w2 A2 := by
    intro A M1 v hM1 hH
    obtain ⟨hR, hW, hO, h8⟩ := (hH.cp hw hS8 hP8 (fun _ _ => rfl)).s lo
    obtain ⟨w2, A2, d2, r, y1, y2, y3, y4, y5, y6, y7, -⟩ := st_minute K2 h39 (by omega) (by omega) hR hW hO h8 (by omega) v
    exact ⟨w2, A2, d2, by omega, y2, y3, HR.s (σ := sE σ (nI p) (nI (mm + k)) (nI d)) ⟨y4, y5, y6, y7⟩ (fun b hb => (lo b hb).symm)⟩
  -- the block itself
  obtain ⟨τ2, r1, r2⟩ := exs_any (τ0 := τ0) ord k mm d
  obtain ⟨A0, dd0, c1, c2, c3⟩ := hI τ2 k (by omega) (by omega) r1 r2 (τ0.1 583) 0 X0.2.2.1
  obtain ⟨w2, A2, d2, -, p2, -, -⟩ := one A0 (M + dd0) 0 (by omega) c3
  refine ⟨w2, p2, ?_⟩
  intro τ' ne h1 h2 h3 h4 A v hH
  obtain ⟨A1, dd, g1, g2, g3⟩ := hI τ' ne (by omega) h2 h3 h4 A v hH
  obtain ⟨w3, A3, d3, q1, q2, q3, q4⟩ := one A1 (M + dd) (v + nI dd) (by omega) g3
  have ew : sH (sE σ (nI p) (nI (mm + k)) (nI d)) h w3 = sH (sE σ (nI p) (nI (mm + k)) (nI d)) h w2 := by
    rw [p2] at q2
    injection q2 with q2
    exact q2.symm
  have ec : ∀ c, c < 9 → w2 c = w3 c := fun c hc => by
    have := congrArg (fun s : LH => s.1 (h + c)) ew
    rw [sH_in hc, sH_in hc] at this
    exact this.symm
  have ww : WE w3 w2 := ⟨fun c _ _ j _ => by rw [ec c (by omega)], by rw [ec 0 (by omega)], by rw [ec 0 (by omega)], by rw [ec 0 (by omega)]⟩
  refine ⟨A3, dd + d3, by omega, ?_, ?_⟩
  · rw [mRun_app k 1 mm A v, g2]
    show (mMin L τ' S P n0 ne go ord 1000 (mm + k) A1 (v + nI dd)).bind (fun q => some q) = _
    have e : mMin L τ' S P n0 ne go ord 1000 (mm + k) A1 (v + nI dd) = mMin L τb S P n0 1 go (fun _ => p) 1000 (mm + k) A1 (v + nI dd) := by
      have rm : RMo τb τ' := ⟨h3.1.trans frm.1.symm, h3.2.1.trans frm.2.1.symm, h3.2.2.1.trans frm.2.2.1.symm, h3.2.2.2.trans frm.2.2.2.symm⟩
      refine mMin_cg rm (fun B => ?_)
      rw [g3.2.1.1.2.1, ex_at h4 (show k < ne by omega) (by omega), ho]
      show _ = mEx τb (fun _ => p) (nI (mm + k)) 0 B
      unfold mEx
      rw [f3, if_pos rfl, f4]
    rw [e, q3]
    show some (A3, v + nI dd + nI d3) = _
    rw [Int32.add_assoc, nI_add]
  · rw [show mm + (k + 1) = mm + k + 1 by omega, show M + (dd + d3) = M + dd + d3 by omega]
    exact q4.cp ww hS8 hP8 (fun _ _ => rfl)
end
