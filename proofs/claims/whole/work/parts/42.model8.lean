/-! the model: minutes -/
theorem pickM_in {L : Nat → Nat → Int32} {τ0 : LH} {S P s t : Nat} {A : Nat → Int32} (h : pickM L τ0 S P A = (some s, some t)) : s < S ∧ t < P ∧ tkM L τ0 P A s = some t := by
  obtain ⟨b1, b2⟩ := mvR_in S 0 none none (fun j hj => by cases hj) (fun _ => rfl) (fun _ => rfl) _ _ h
  obtain ⟨b3, b4⟩ := mvR_tk S 0 none none (fun j hj => by cases hj) (fun _ => rfl) _ _ h
  have h1 := b1 s rfl
  have h2 := b3 s rfl
  have h3 : tkR L (qM τ0) (sM τ0) (xM2 τ0) s (vw P A) P 0 none 0 = some t := h2
  have h4 := tkR_in P 0 none 0 (fun j hj => by cases hj) t h3
  exact ⟨by omega, by omega, h2⟩
theorem muA_ok {L : Nat → Nat → Int32} {τ0 : LH} {S P mm : Nat} (hP8 : P ≤ 8) : ∀ (m : Nat) (A A' : Nat → Int32) (v v' : Int32), muA (pickM L τ0 S P) m A v = some (A', v') → AOk S P mm A → AOk S P mm A' := by
  intro m
  induction m with
  | zero => intro A A' v v' h; cases h
  | succ m ih =>
    intro A A' v v' h hA
    unfold muA at h
    cases hpk : pickM L τ0 S P A with
    | mk s t =>
      rw [hpk] at h
      cases s with
      | none => cases h; exact hA
      | some s =>
        cases t with
        | none => cases h; exact hA
        | some t =>
          obtain ⟨h1, h2, -⟩ := pickM_in hpk
          exact ih _ _ _ _ h (hA.move h2 hP8 h1)
def mJoy (L : Nat → Nat → Int32) (k : Nat) (A : Nat → Int32) : Nat → Int32 := if A (4 * k) = -2 then A else upd A (4 * k + 3) (A (4 * k + 3) + lkx L k (A (4 * k)))
theorem AOk.joy {S P mm : Nat} {L : Nat → Nat → Int32} (hP8 : P ≤ 8) : ∀ (k : Nat) (A : Nat → Int32), k < P → AOk S P mm A → AOk S P mm (mJoy L k A) := by
  intro k A hk h
  unfold mJoy
  split
  · exact h
  · exact h.up1 hP8 (by omega) (fun q _ z => by omega)
theorem AOk.half {S P mm n0 ne : Nat} {L : Nat → Nat → Int32} {τ0 : LH} {go ex : Nat → Nat} {y : Int32} {A : Nat → Int32} (G : MGo τ0 S P n0 ne go ex) (h : AOk S P mm A) : AOk S P mm (mHalf L τ0 S P n0 ne go ex y A) := by
  obtain ⟨hS, hS8, hP, hP8, hG, hG10, hgo, hE, hE8, hex, hR⟩ := G
  exact AOk.bkO hP8 hS8 10 _ (AOk.itr ne 0 ne (by omega) (AOk.ex hP8 hS8 hex) _ (AOk.itr n0 0 n0 (by omega) (AOk.out hP8 hS8 hgo) _ (AOk.itr S 0 S (by omega) (AOk.rl hP8 hS8) _ h)))
theorem m_joy_loop {I : LH → Prop} {P S mm : Nat} {L : Nat → Nat → Nat → Int32} (hI : Icl I) (hL : LKok I P S L) {τ0 : LH} {a : Nat} (ha : aW a) (hP : τ0.1 570 27 = nI P) (hP8 : P ≤ 8) (hm1 : mm < 101) {v : Int32} : ∀ (m n k : Nat) (A : Nat → Int32) (τ : LH), k + m = P → m < n → AOk S P mm A → Mt I τ0 a A v τ → ∃ τ', s_Model_goMinute_7 a n (nI k) τ = some τ' ∧ Mt I τ0 a (upd (itr (mJoy (L mm)) m k A) 48 (nI (mm + 1))) v τ' := by
  intro m
  induction m with
  | zero =>
    intro n k A τ hk hn hA h
    obtain ⟨n, rfl⟩ : ∃ q, n = q + 1 := ⟨n - 1, by omega⟩
    rw [s_Model_goMinute_7]
    unfold s_Model_goMinute_7_b
    rw [h.fld ha (by omega) (by omega), hP, if_pos (nI_le (by omega) (by omega)), if_pos (show ib 48 290 by decide), if_pos (show ib 48 290 by decide), h.I ha, h.A ha, show A (Int32.toNatClampNeg 48) = nI mm from hA.2.1, Jvm.Pilot.CLostPlacesLaw_law_r3427_12969d.a1]
    exact ⟨_, rfl, h.to hI ha⟩
  | succ m ih =>
    intro n k A τ hk hn hA h
    obtain ⟨n, rfl⟩ : ∃ q, n = q + 1 := ⟨n - 1, by omega⟩
    have skip : ∀ (τ : LH), Mt I τ0 a (mJoy (L mm) k A) v τ → ∃ τ', s_Model_goMinute_44 a (s_Model_goMinute_7 a n) (nI k) τ = some τ' ∧ Mt I τ0 a (upd (itr (mJoy (L mm)) (m + 1) k A) 48 (nI (mm + 1))) v τ' := by
      intro τ h2
      simp only [s_Model_goMinute_44, xl, Jvm.Pilot.CLostPlacesLaw_law_r3427_12969d.a1]
      exact ih n (k + 1) _ τ (by omega) (by omega) (AOk.joy hP8 k A (by omega) hA) h2
    rw [s_Model_goMinute_7]
    unfold s_Model_goMinute_7_b
    rw [h.fld ha (by omega) (by omega), hP, if_neg (nI_ge (by omega) (by omega)), m_isHere (by omega), h.A ha]
    simp only [xb2]
    by_cases q : A (4 * k) = -2
    · rw [if_pos q, if_pos rfl]
      have e : mJoy (L mm) k A = A := if_pos q
      rw [← e] at h
      exact skip τ h
    · rw [if_neg q, if_neg (show ¬ (1 : Int32) = 0 by decide), c4, a3, if_pos (ib_nI (by omega) (by omega)), if_pos (ib_nI (by omega) (by omega)), nI_clamp (show 4 * k < 2 ^ 31 by omega), nI_clamp (show 4 * k + 3 < 2 ^ 31 by omega), h.A ha]
      obtain ⟨τ1, e1, h1⟩ := m_likesIn hL h ha (p := k) (by omega) (hA.1 k (by omega)) hA.2.1 hm1
      rw [e1]
      simp only
      rw [if_pos (ib_nI (by omega) (by omega)), h1.I ha]
      have e : mJoy (L mm) k A = upd A (4 * k + 3) (A (4 * k + 3) + lkx (L mm) k (A (4 * k))) := if_neg q
      rw [← e]
      exact skip _ (h1.to hI ha)
/-- a minute of a world -/
def mMin (L : Nat → Nat → Nat → Int32) (τ0 : LH) (S P n0 ne : Nat) (go ex : Nat → Nat) (M mm : Nat) (A : Nat → Int32) (v : Int32) : Option ((Nat → Int32) × Int32) := (muA (pickM (L mm) τ0 S P) M (mHalf (L mm) τ0 S P n0 ne go ex (A 48) A) v).map fun r => (upd (itr (mJoy (L mm)) P 0 r.1) 48 (nI (mm + 1)), r.2)
theorem m_goMinute {I : LH → Prop} {P S n0 ne mm M : Nat} {go ex : Nat → Nat} {L : Nat → Nat → Nat → Int32} (hI : Icl I) (hL : LKok I P S L) {τ0 : LH} {a : Nat} (ha : aW a) (G : MGo τ0 S P n0 ne go ex) (hm1 : mm < 101) (hM : M < 10000) {A A2 : Nat → Int32} {v v2 : Int32} {τ : LH} (hA : AOk S P mm A) (h : Mt I τ0 a A v τ) (hmu : mMin L τ0 S P n0 ne go ex M mm A v = some (A2, v2)) : (∃ τ', s_Model_goMinute a τ = some τ' ∧ Mt I τ0 a A2 v2 τ') ∧ AOk S P (mm + 1) A2 := by
  unfold mMin at hmu
  cases hu : muA (pickM (L mm) τ0 S P) M (mHalf (L mm) τ0 S P n0 ne go ex (A 48) A) v with
  | none => rw [hu] at hmu; cases hmu
  | some r =>
    obtain ⟨B, w⟩ := r
    rw [hu] at hmu
    cases hmu
    have hB : AOk S P mm B := muA_ok G.2.2.2.1 M _ _ _ _ hu (AOk.half G hA)
    obtain ⟨τ1, e1, h1⟩ := m_halfMinute hI hL ha G hm1 hM hA h hu
    constructor
    · unfold s_Model_goMinute
      rw [e1]
      simp only [xb1]
      have := m_joy_loop hI hL ha G.2.2.1 G.2.2.2.1 hm1 P FUEL 0 B τ1 (by omega) (by unfold FUEL; have := G.2.2.2.1; omega) hB h1
      rw [nI_0] at this
      exact this
    · have hJ := AOk.itr P 0 P (by omega) (AOk.joy (L := L mm) G.2.2.2.1) B hB
      obtain ⟨g1, g2, g, g3, g4⟩ := hJ
      have := G.2.2.2.1
      refine ⟨fun p hp => ?_, pk_us, g, g3, ?_⟩
      · show plc S (upd (itr (mJoy (L mm)) P 0 B) 48 (nI (mm + 1)) (4 * p))
        rw [pk_un (by omega)]
        exact g1 p hp
      · show upd (itr (mJoy (L mm)) P 0 B) 48 (nI (mm + 1)) 49 = nI g
        rw [pk_un (by omega)]
        exact g4
/-- to the end -/
def mRun (L : Nat → Nat → Nat → Int32) (τ0 : LH) (S P n0 ne : Nat) (go ex : Nat → Nat) (M : Nat) : Nat → Nat → (Nat → Int32) → Int32 → Option ((Nat → Int32) × Int32)
  | 0, _, A, v => some (A, v)
  | n + 1, mm, A, v => (mMin L τ0 S P n0 ne go ex M mm A v).bind fun r => mRun L τ0 S P n0 ne go ex M n (mm + 1) r.1 r.2
theorem m_toEnd_loop {I : LH → Prop} {P S n0 ne M E : Nat} {go ex : Nat → Nat} {L : Nat → Nat → Nat → Int32} (hI : Icl I) (hL : LKok I P S L) {τ0 : LH} {a : Nat} (ha : aW a) (G : MGo τ0 S P n0 ne go ex) (hM : M < 10000) (hE : τ0.1 581 1 = nI E) (hE1 : E ≤ 101) : ∀ (m n mm : Nat) (A A2 : Nat → Int32) (v v2 : Int32) (τ : LH), mm + m = E → m < n → AOk S P mm A → Mt I τ0 a A v τ → mRun L τ0 S P n0 ne go ex M m mm A v = some (A2, v2) → (∃ τ', s_Model_toEnd_5 a n τ = some τ' ∧ Mt I τ0 a A2 v2 τ') ∧ AOk S P E A2 := by
  intro m
  induction m with
  | zero =>
    intro n mm A A2 v v2 τ hk hn hA h hr
    obtain ⟨n, rfl⟩ : ∃ q, n = q + 1 := ⟨n - 1, by omega⟩
    cases hr
    have : mm = E := by omega
    subst this
    refine ⟨?_, hA⟩
    rw [s_Model_toEnd_5]
    unfold s_Model_toEnd_5_b
    rw [if_pos (show ib 48 290 by decide), if_pos (show ib 1 2 by decide), h.arr (b := 581) (by rcases ha with rfl | rfl <;> omega) (by omega) (by omega) (by omega), h.A ha, show τ0.1 581 (Int32.toNatClampNeg 1) = nI mm from hE, show A (Int32.toNatClampNeg 48) = nI mm from hA.2.1, if_pos (Int32.le_refl _)]
    exact ⟨τ, rfl, h⟩
  | succ m ih =>
    intro n mm A A2 v v2 τ hk hn hA h hr
    obtain ⟨n, rfl⟩ : ∃ q, n = q + 1 := ⟨n - 1, by omega⟩
    unfold mRun at hr
    cases hmm : mMin L τ0 S P n0 ne go ex M mm A v with
    | none => rw [hmm] at hr; cases hr
    | some r =>
      rw [hmm] at hr
      obtain ⟨⟨τ1, e1, h1⟩, hB⟩ := m_goMinute hI hL ha G (by omega) hM hA h (A2 := r.1) (v2 := r.2) hmm
      have := ih n (mm + 1) r.1 A2 r.2 v2 τ1 (by omega) (by omega) hB h1 hr
      refine ⟨?_, this.2⟩
      rw [s_Model_toEnd_5]
      unfold s_Model_toEnd_5_b
      rw [if_pos (show ib 48 290 by decide), if_pos (show ib 1 2 by decide), h.arr (b := 581) (by rcases ha with rfl | rfl <;> omega) (by omega) (by omega) (by omega), h.A ha, show τ0.1 581 (Int32.toNatClampNeg 1) = nI E from hE, show A (Int32.toNatClampNeg 48) = nI mm from hA.2.1, if_neg (nI_ge (by omega) (by omega)), e1]
      simp only [xb1]
      exact this.1
theorem m_toEnd {I : LH → Prop} {P S n0 ne mm M E : Nat} {go ex : Nat → Nat} {L : Nat → Nat → Nat → Int32} (hI : Icl I) (hL : LKok I P S L) {τ0 : LH} {a : Nat} (ha : aW a) (G : MGo τ0 S P n0 ne go ex) (hM : M < 10000) (hE : τ0.1 581 1 = nI E) (hE1 : E ≤ 101) (hmE : mm ≤ E) {A A2 : Nat → Int32} {v v2 : Int32} {τ : LH} (hA : AOk S P mm A) (h : Mt I τ0 a A v τ) (hr : mRun L τ0 S P n0 ne go ex M (E - mm) mm A 0 = some (A2, v2)) : (∃ τ', s_Model_toEnd a τ = some τ' ∧ Mt I τ0 a A2 v2 τ') ∧ AOk S P E A2 := by
  unfold s_Model_toEnd
  simp only [xl]
  exact m_toEnd_loop hI hL ha G hM hE hE1 (E - mm) FUEL mm A A2 0 v2 _ (by omega) (by unfold FUEL; omega) hA (h.mv1 hI) hr
def cpy (n : Nat) (X Y : Nat → Int32) : Nat → Int32 := fun j => if j < n then X j else Y j
theorem m_copy_loop {a b N : Nat} (hab : a ≠ b) (hN : N ≤ 290) : ∀ (m n k : Nat) (Y : Nat → Int32) (τ : LH), k + m = N → m < n → τ.1 b = cpy k (τ.1 a) Y → s_Model_copy_12 a b n (nI N) (nI k) τ = some (stF τ b (cpy N (τ.1 a) Y)) := by
  intro m
  induction m with
  | zero =>
    intro n k Y τ hk hn h
    obtain ⟨n, rfl⟩ : ∃ q, n = q + 1 := ⟨n - 1, by omega⟩
    have : k = N := by omega
    subst this
    rw [s_Model_copy_12]
    unfold s_Model_copy_12_b
    rw [if_pos (Int32.le_refl _), ← h, stF_id]
  | succ m ih =>
    intro n k Y τ hk hn h
    obtain ⟨n, rfl⟩ : ∃ q, n = q + 1 := ⟨n - 1, by omega⟩
    have i8 : ib (nI k) 290 := ib_nI (by omega) (by omega)
    have cl : (nI k).toNatClampNeg = k := nI_clamp (by omega)
    rw [s_Model_copy_12]
    unfold s_Model_copy_12_b
    simp only [if_pos i8, cl, xl, Jvm.Pilot.CLostPlacesLaw_law_r3427_12969d.a1]
    rw [if_neg (nI_ge (by omega) (by omega))]
    have e : (stI τ b k (τ.1 a k)).1 a = τ.1 a := stF_n hab
    have := ih n (k + 1) Y (stI τ b k (τ.1 a k)) (by omega) (by omega) (by
      rw [e]
      show (stF τ b _).1 b = _
      rw [stF_s, h]
      funext j
      unfold upd cpy
      by_cases q : j = k
      · subst q
        simp
      · simp only [if_neg q]
        by_cases q2 : j < k
        · rw [if_pos q2, if_pos (by omega)]
        · rw [if_neg q2, if_neg (by omega)])
    rw [e] at this
    rw [this]
    unfold stI
    rw [stF_F]
theorem m_copy {a b g : Nat} {τ : LH} (hab : a ≠ b) (hg : τ.1 a 49 = nI g) (hg1 : g ≤ 60) : s_Model_copy a b τ = some (stF τ b (cpy (50 + 4 * g) (τ.1 a) (τ.1 b))) := by
  unfold s_Model_copy
  rw [if_pos (show ib 49 290 by decide), show τ.1 a (Int32.toNatClampNeg 49) = nI g from hg, c4, c50]
  simp only [xl]
  have := m_copy_loop (N := 50 + 4 * g) hab (by omega) (50 + 4 * g) FUEL 0 (τ.1 b) τ (by omega) (by unfold FUEL; omega) (by funext j; unfold cpy; rw [if_neg (by omega)])
  rw [nI_0] at this
  exact this
