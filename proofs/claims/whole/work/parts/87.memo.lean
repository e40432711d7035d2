/-! likings in the model, with their memo -/
def lt6 (w f x q m p : Int32) : Nat → Int32 := fun i => match i with
  | 0 => w
  | 1 => f
  | 2 => x
  | 3 => q
  | 4 => m
  | _ => p
def Wv (cl : CL) (w f x q m p : Nat) : Int32 := wOf (lt6 (nI w) (nI f) (nI x) (nI q) (nI m) (nI p)) cl
def cl9 (v : Int32) : Int32 := if v < 0 then 0 else if 999 < v then 999 else v
theorem cl9_m {v : Int32} : (if 0 < (if v < 999 then v else 999) then (if v < 999 then v else 999) else 0) = cl9 v := by
  unfold cl9
  by_cases q1 : v < 0
  · have h2 : v < 999 := Int32.lt_trans q1 (by decide)
    rw [if_pos q1, if_pos h2, if_neg (fun z => absurd (Int32.lt_trans z q1) (Int32.lt_irrefl (a := 0)))]
  · rw [if_neg q1]
    by_cases q2 : 999 < v
    · have h2 : ¬ v < 999 := fun z => absurd (Int32.lt_trans z q2) Int32.lt_irrefl
      rw [if_pos q2, if_neg h2, if_pos (by decide)]
    · rw [if_neg q2]
      by_cases q3 : v < 999
      · rw [if_pos q3]
        by_cases q4 : 0 < v
        · rw [if_pos q4]
        · rw [if_neg q4]
          exact Int32.le_antisymm (Int32.not_lt.mp q1) (Int32.not_lt.mp q4)
      · rw [if_neg q3, if_pos (by decide)]
        exact Int32.le_antisymm (Int32.not_lt.mp q3) (Int32.not_lt.mp q2)
theorem cl9_n (v : Int32) : ∃ k, k < 1000 ∧ cl9 v = nI k := by
  unfold cl9
  by_cases q1 : v < 0
  · rw [if_pos q1]; exact ⟨0, by omega, rfl⟩
  · rw [if_neg q1]
    by_cases q2 : 999 < v
    · rw [if_pos q2]; exact ⟨999, by omega, rfl⟩
    · rw [if_neg q2]
      obtain ⟨t, h1, h2, h3⟩ := nI_btw (a := 0) (b := 999) (by omega) (by omega) (Int32.not_lt.mp q1) (Int32.not_lt.mp q2)
      exact ⟨t, by omega, h1⟩
theorem cl9_s {k : Nat} (h : k < 1000) : cl9 (nI k) = nI k := by
  unfold cl9
  rw [if_neg (nI_pos (by omega)), if_neg (show ¬ (999 : Int32) < nI k from nI_nlt (b := k) (a := 999) (by omega) (by omega))]
def kN (w f x q m p t : Nat) : Nat := 4 * (8 * (200 * (10 * (20 * (100 * w + f) + x) + q) + m) + p) + t + 1
theorem kN_inj {w f x q m p t w' f' x' q' m' p' t' : Nat} (h1 : f < 100 ∧ x < 20 ∧ q < 10 ∧ m < 200 ∧ p < 8 ∧ t < 4) (h2 : f' < 100 ∧ x' < 20 ∧ q' < 10 ∧ m' < 200 ∧ p' < 8 ∧ t' < 4) (h : kN w f x q m p t = kN w' f' x' q' m' p' t') : w = w' ∧ f = f' ∧ x = x' ∧ q = q' ∧ m = m' ∧ p = p' ∧ t = t' := by
  unfold kN at h
  have a1 : t = t' := by omega
  have a2 : p = p' := by omega
  have a3 : m = m' := by omega
  have a4 : q = q' := by omega
  have a5 : x = x' := by omega
  have a6 : f = f' := by omega
  exact ⟨by omega, a6, a5, a4, a3, a2, a1⟩
/-- the memo holds what it says; the room, the texts, the taste that holds -/
def MI (S P F cnt : Nat) (wn mn xn qn : Nat → Nat) (held : Option Nat) (Bt : Nat → Nat → Nat) (le : Nat → Nat) (CLs : Nat → CL) (τ : LH) : Prop :=
  (∀ i, i < 4093 → τ.2.1 585 i = 0 ∨ ∃ w f x q m p t, w < 100 ∧ f < 100 ∧ x < 20 ∧ q < 10 ∧ m < 200 ∧ p < 8 ∧ t < cnt ∧ τ.2.1 585 i = lN (kN w f x q m p t) ∧ τ.1 586 i = Wv (CLs t) w f x q m p) ∧
  (∀ s, s < S → τ.1 575 (3 * s) = nI (wn s) ∧ τ.1 575 (3 * s + 1) = nI (mn s) ∧ τ.1 575 (3 * s + 2) = nI (xn s)) ∧
  (∀ p, p < P → τ.1 577 (4 * p + 1) = nI (qn p)) ∧ τ.1 581 0 = nI F ∧ τ.1 570 35 = oI held ∧
  ∀ t, t < cnt → τ.1 573 t = nI (le t) ∧ TX τ (Bt t) (le t) 572 (240 * t)
/-- what is known of the room and the tastes for good -/
def MK (S P F cnt : Nat) (wn mn xn qn : Nat → Nat) (held : Option Nat) (Bt : Nat → Nat → Nat) (le : Nat → Nat) (CLs : Nat → CL) : Prop :=
  S ≤ 8 ∧ P ≤ 8 ∧ F < 100 ∧ cnt ≤ 4 ∧ (∀ s, s < S → wn s < 100 ∧ mn s < 100 ∧ xn s < 20) ∧ (∀ p, p < P → qn p < 10) ∧ (∀ h, held = some h → h < cnt) ∧ ∀ t, t < cnt → pAll (Bt t) (le t) (le t + 1) 0 [] = .inr (CLs t)
theorem MI.dep {S P F cnt : Nat} {wn mn xn qn : Nat → Nat} {held : Option Nat} {Bt : Nat → Nat → Nat} {le : Nat → Nat} {CLs : Nat → CL} : Idep (MI S P F cnt wn mn xn qn held Bt le CLs) := by
  intro τ τ' h hb h35 h85
  obtain ⟨h1, h2, h3, h4, h5, h6⟩ := h
  refine ⟨fun i hi => ?_, fun s hs => ?_, fun p hp => ?_, ?_, ?_, fun t ht => ?_⟩
  · rw [h85, hb 586 (by omega)]; exact h1 i hi
  · rw [hb 575 (by omega)]; exact h2 s hs
  · rw [hb 577 (by omega)]; exact h3 p hp
  · rw [hb 581 (by omega)]; exact h4
  · rw [h35]; exact h5
  · obtain ⟨a1, a2, a3⟩ := h6 t ht
    rw [hb 573 (by omega)]
    exact ⟨a1, a2, fun i hi => by rw [hb 572 (by omega)]; exact a3 i hi⟩
/-- likings, by minutes, sitters and seats -/
def Lh (wn xn qn : Nat → Nat) (held : Option Nat) (CLs : Nat → CL) (f m p s : Nat) : Int32 := match held with
  | none => cl9 (nI (wn s + f))
  | some h => cl9 (Wv (CLs h) (wn s) f (xn s) (qn p) m p)
def Lf (F : Nat) (wn mn xn qn : Nat → Nat) (held : Option Nat) (CLs : Nat → CL) (m p s : Nat) : Int32 := Lh wn xn qn held CLs (if m < F then 0 else mn s) m p s
section
variable {S P F cnt : Nat} {wn mn xn qn : Nat → Nat} {held : Option Nat} {Bt : Nat → Nat → Nat} {le : Nat → Nat} {CLs : Nat → CL}
/-- the letters laid out for a reading -/
def lay6 (τ : LH) (w f x q m p : Int32) : LH := stI (stI (stI (stI (stI (stI τ 574 119 w) 574 102 f) 574 120 x) 574 113 q) 574 109 m) 574 112 p
theorem lay6_n {τ : LH} {w f x q m p : Int32} {b : Nat} (hb : b ≠ 574) : (lay6 τ w f x q m p).1 b = τ.1 b := by
  unfold lay6
  rw [stI_n hb, stI_n hb, stI_n hb, stI_n hb, stI_n hb, stI_n hb]
theorem lay6_l {τ : LH} {w f x q m p : Int32} : LM (lay6 τ w f x q m p) (lt6 w f x q m p) := by
  intro c i hc
  unfold lix at hc
  unfold lay6
  split at hc
  · rename_i z; cases hc; subst z
    rw [stI_e, if_neg (by omega), stI_e, if_neg (by omega), stI_e, if_neg (by omega), stI_e, if_neg (by omega), stI_e, if_neg (by omega), stI_e, if_pos rfl]; rfl
  · split at hc
    · rename_i z; cases hc; subst z
      rw [stI_e, if_neg (by omega), stI_e, if_neg (by omega), stI_e, if_neg (by omega), stI_e, if_neg (by omega), stI_e, if_pos rfl]; rfl
    · split at hc
      · rename_i z; cases hc; subst z
        rw [stI_e, if_neg (by omega), stI_e, if_neg (by omega), stI_e, if_neg (by omega), stI_e, if_pos rfl]; rfl
      · split at hc
        · rename_i z; cases hc; subst z
          rw [stI_e, if_neg (by omega), stI_e, if_neg (by omega), stI_e, if_pos rfl]; rfl
        · split at hc
          · rename_i z; cases hc; subst z
            rw [stI_e, if_neg (by omega), stI_e, if_pos rfl]; rfl
          · split at hc
            · rename_i z; cases hc; subst z
              rw [stI_e, if_pos rfl]; rfl
            · cases hc
theorem m_304 {τ : LH} {p0 p1 p2 : Int32} {i : Nat} (hi : i < 4093) : s_Model_likesBy_304 p0 p1 p2 (nI i) τ = some (cl9 (τ.1 586 i), τ) := by
  unfold s_Model_likesBy_304
  rw [if_pos (ib_nI hi (by omega)), nI_clamp (by omega), cl9_m]
theorem lg_eq {x y : Int64} : lg_cmp x y = 0 ↔ x = y := by
  unfold lg_cmp
  by_cases q1 : x > y
  · rw [if_pos q1]
    exact ⟨fun z => absurd z (by decide), fun z => absurd (z ▸ q1 : x > x) Int64.lt_irrefl⟩
  · rw [if_neg q1]
    by_cases q2 : x = y
    · rw [if_pos q2]; exact ⟨fun _ => q2, fun _ => rfl⟩
    · rw [if_neg q2]; exact ⟨fun z => absurd z (by decide), fun z => absurd z q2⟩
theorem m_30 (K : MK S P F cnt wn mn xn qn held Bt le CLs) {τ : LH} (hI : MI S P F cnt wn mn xn qn held Bt le CLs τ) {p s m f : Nat} (hp : p < P) (hs : s < S) (hm : m < 101) (hf : f < 100) : ∃ τ', s_Model_likesBy_30 (nI p) (nI s) (nI m) (nI f) τ = some (Lh wn xn qn held CLs f m p s, τ') ∧ SE τ τ' ∧ MI S P F cnt wn mn xn qn held Bt le CLs τ' := by
  obtain ⟨K1, K2, K3, K4, K5, K6, K7, K8⟩ := K
  have hI0 := hI
  obtain ⟨h1, h2, h3, h4, h5, h6⟩ := hI
  obtain ⟨s1, s2, s3⟩ := h2 s hs
  obtain ⟨r1, r2, r3⟩ := K5 s hs
  have q1 := h3 p hp
  have q2 := K6 p hp
  have i1 : ib (nI (3 * s)) 24 := ib_nI (by omega) (by omega)
  have i2 : ib (nI (3 * s + 2)) 24 := ib_nI (by omega) (by omega)
  have i3 : ib (nI (4 * p + 1)) 32 := ib_nI (by omega) (by omega)
  have t1 : (nI (3 * s)).toNatClampNeg = 3 * s := nI_clamp (by omega)
  have t2 : (nI (3 * s + 2)).toNatClampNeg = 3 * s + 2 := nI_clamp (by omega)
  have t3 : (nI (4 * p + 1)).toNatClampNeg = 4 * p + 1 := nI_clamp (by omega)
  unfold s_Model_likesBy_30
  rw [c3, c4, Jvm.Pilot.CLostPlacesLaw_law_r3427_12969d.a2, Jvm.Pilot.CLostPlacesLaw_law_r3427_12969d.a1]
  cases held with
  | none =>
    rw [if_pos (show τ.1 570 35 = -1 from h5), if_pos i1, t1, s1, nI_add, cl9_m]
    exact ⟨τ, rfl, SE.rf, hI0⟩
  | some h =>
    have hh := K7 h rfl
    have e35 : τ.1 570 35 = nI h := h5
    rw [if_neg (show ¬ τ.1 570 35 = -1 by rw [e35]; exact nI_m1 (by omega)), if_pos i1, t1, s1]
    simp only [xl]
    rw [if_pos i2, t2, s3]
    simp only [if_pos i3, t3, q1, e35]
    have key : 4 * (8 * (200 * (10 * (20 * (100 * (nI (wn s)).toInt64 + (nI f).toInt64) + (nI (xn s)).toInt64) + (nI (qn p)).toInt64) + (nI m).toInt64) + (nI p).toInt64) + (nI h).toInt64 + 1 = lN (kN (wn s) f (xn s) (qn p) m p h) := by
      rw [nI_l (n := wn s) (by omega), nI_l (n := f) (by omega), nI_l (n := xn s) (by omega), nI_l (n := qn p) (by omega), nI_l (n := m) (by omega), nI_l (n := p) (by omega), nI_l (n := h) (by omega), show (100 : Int64) = lN 100 from rfl, show (20 : Int64) = lN 20 from rfl, show (10 : Int64) = lN 10 from rfl, show (200 : Int64) = lN 200 from rfl, show (8 : Int64) = lN 8 from rfl, show (4 : Int64) = lN 4 from rfl, show (1 : Int64) = lN 1 from rfl]
      simp only [lN_mul, lN_add]
      rfl
    have kb : kN (wn s) f (xn s) (qn p) m p h < 2 ^ 63 := by unfold kN; omega
    have spot : Int64.toInt32 (lN (kN (wn s) f (xn s) (qn p) m p h) - lN (kN (wn s) f (xn s) (qn p) m p h) / 4093 * 4093) = nI (kN (wn s) f (xn s) (qn p) m p h % 4093) := by
      rw [show (4093 : Int64) = lN 4093 from rfl, pk_lRem kb (by omega) (by omega), lN_i]
    simp only [key, spot]
    have hi : kN (wn s) f (xn s) (qn p) m p h % 4093 < 4093 := Nat.mod_lt _ (by omega)
    have k0 : kN (wn s) f (xn s) (qn p) m p h ≠ 0 := by unfold kN; omega
    generalize hkk : kN (wn s) f (xn s) (qn p) m p h = kk at *
    generalize kk % 4093 = i at *
    have ii : ib (nI i) 4093 := ib_nI hi (by omega)
    have ti : (nI i).toNatClampNeg = i := nI_clamp (by omega)
    simp only [if_pos ii, ti]
    by_cases qk : τ.2.1 585 i = lN kk
    · rw [if_pos (lg_eq.mpr qk), m_304 hi]
      refine ⟨τ, ?_, SE.rf, hI0⟩
      rcases h1 i hi with z | ⟨w, f', x, q, m', p', t, z1, z2, z3, z4, z5, z6, z7, z8, z9⟩
      · rw [z] at qk
        exact absurd ((pk_lEQ (a := 0) (b := kk) (by omega) kb).mp qk) (fun y => k0 y.symm)
      · rw [z8] at qk
        have e := (pk_lEQ (by unfold kN; omega) kb).mp qk
        rw [← hkk] at e
        obtain ⟨y1, y2, y3, y4, y5, y6, y7⟩ := kN_inj ⟨z2, z3, z4, z5, z6, by omega⟩ ⟨hf, r3, q2, by omega, by omega, by omega⟩ e
        rw [z9, y1, y2, y3, y4, y5, y6, y7]
        rfl
    · rw [if_neg (fun z => qk (lg_eq.mp z))]
      simp only [if_pos (show ib 119 128 by decide), if_pos (show ib 102 128 by decide), if_pos (show ib 120 128 by decide), if_pos (show ib 113 128 by decide), if_pos (show ib 109 128 by decide), if_pos (show ib 112 128 by decide), show Int32.toNatClampNeg 119 = 119 by decide, show Int32.toNatClampNeg 102 = 102 by decide, show Int32.toNatClampNeg 120 = 120 by decide, show Int32.toNatClampNeg 113 = 113 by decide, show Int32.toNatClampNeg 109 = 109 by decide, show Int32.toNatClampNeg 112 = 112 by decide]
      simp only [stI_n (τ := τ) (a := 574) (b := 575) (by omega), stI_n (a := 574) (b := 575) (show 575 ≠ 574 by omega), stI_n (a := 574) (b := 577) (show 577 ≠ 574 by omega), stI_n (a := 574) (b := 570) (show 570 ≠ 574 by omega), stI_n (a := 574) (b := 573) (show 573 ≠ 574 by omega), s1, s3, q1, e35]
      simp only [if_pos i1, if_pos i2, if_pos (show ib (nI h) 4 from ib_nI (by omega) (by omega))]
      rw [nI_clamp (show h < 2 ^ 31 by omega), (h6 h hh).1, show (240 : Int32) = nI 240 from rfl, pk_mul]
      have tx : TX (lay6 τ (nI (wn s)) (nI f) (nI (xn s)) (nI (qn p)) (nI m) (nI p)) (Bt h) (le h) 572 (240 * h) := ⟨(h6 h hh).2.1, fun j hj => by rw [lay6_n (by omega)]; exact (h6 h hh).2.2 j hj⟩
      have gt := m_goThrough tx (lay6_l (τ := τ) (w := nI (wn s)) (f := nI f) (x := nI (xn s)) (q := nI (qn p)) (m := nI m) (p := nI p))
      rw [K8 h hh] at gt
      obtain ⟨τ', g1, g2, g3, ⟨g4, g5, g6⟩, -⟩ := gt
      unfold lay6 at g1
      rw [g1]
      simp only [xb1]
      rw [m_304 hi, stI_e, if_pos rfl]
      have e14 : (stJ τ' 585 i (lN kk)).1 570 14 = τ'.1 570 14 := rfl
      rw [e14, g3]
      have s_se : SE τ (lay6 τ (nI (wn s)) (nI f) (nI (xn s)) (nI (qn p)) (nI m) (nI p)) := ⟨fun b j q => by unfold nsc at q; rw [lay6_n (by omega)], fun _ _ => rfl, rfl⟩
      refine ⟨_, rfl, (s_se.tr g4).tr ⟨fun b j q => ?_, fun b q => ?_, rfl⟩, ?_⟩
      · unfold nsc at q
        rw [stI_n (by omega)]
        rfl
      · show (if b = 585 then vp_updL (τ'.2.1 585) i (lN kk) else τ'.2.1 b) = τ'.2.1 b
        rw [if_neg q]
      · have n5 : ∀ b, b ≠ 570 → b ≠ 574 → τ'.1 b = τ.1 b := fun b hb hb2 => by rw [g5 b hb, lay6_n hb2]
        have m5 : ∀ b, b ≠ 570 → b ≠ 574 → b ≠ 586 → (stI (stJ τ' 585 i (lN kk)) 586 i (wOf (lt6 (nI (wn s)) (nI f) (nI (xn s)) (nI (qn p)) (nI m) (nI p)) (CLs h))).1 b = τ.1 b := fun b hb hb2 hb3 => by rw [stI_n hb3]; exact n5 b hb hb2
        refine ⟨fun j hj => ?_, fun s hs => ?_, fun p hp => ?_, ?_, ?_, fun t ht => ?_⟩
        · have l1 : (stI (stJ τ' 585 i (lN kk)) 586 i (wOf (lt6 (nI (wn s)) (nI f) (nI (xn s)) (nI (qn p)) (nI m) (nI p)) (CLs h))).2.1 585 j = if j = i then lN kk else τ.2.1 585 j := by
            show (if 585 = 585 then vp_updL (τ'.2.1 585) i (lN kk) else τ'.2.1 585) j = _
            rw [if_pos rfl]
            by_cases e : j = i
            · rw [if_pos e, e, pk_uLs]
            · rw [if_neg e, pk_uLn e, g6]
              rfl
          rw [l1, stI_e]
          by_cases e : j = i
          · rw [if_pos e, if_pos e]
            exact Or.inr ⟨wn s, f, xn s, qn p, m, p, h, r1, hf, r3, q2, by omega, by omega, hh, by rw [hkk], rfl⟩
          · rw [if_neg e, if_neg e]
            rw [show (stJ τ' 585 i (lN kk)).1 586 j = τ.1 586 j from congrFun (n5 586 (by omega) (by omega)) j]
            exact h1 j hj
        · rw [m5 575 (by omega) (by omega) (by omega)]; exact h2 s hs
        · rw [m5 577 (by omega) (by omega) (by omega)]; exact h3 p hp
        · rw [m5 581 (by omega) (by omega) (by omega)]; exact h4
        · rw [stI_n (by omega)]
          have e1 : τ'.1 570 35 = (lay6 τ (nI (wn s)) (nI f) (nI (xn s)) (nI (qn p)) (nI m) (nI p)).1 570 35 := g4.fld (by omega)
          show τ'.1 570 35 = _
          rw [e1, lay6_n (by omega)]
          exact h5
        · obtain ⟨a1, a2, a3⟩ := h6 t ht
          exact ⟨by rw [m5 573 (by omega) (by omega) (by omega)]; exact a1, a2, fun i hi => by rw [m5 572 (by omega) (by omega) (by omega)]; exact a3 i hi⟩
theorem MK.lk (K : MK S P F cnt wn mn xn qn held Bt le CLs) : LKok (MI S P F cnt wn mn xn qn held Bt le CLs) P S (Lf F wn mn xn qn held CLs) := by
  intro τ p x m hI hp hx hm
  have hS8 := K.1
  rcases hx with rfl | rfl | ⟨s, hs, rfl⟩
  · refine ⟨τ, ?_, SE.rf, hI⟩
    unfold s_Model_likesBy lkx
    rw [if_neg (by decide), if_pos (by decide)]
  · refine ⟨τ, ?_, SE.rf, hI⟩
    unfold s_Model_likesBy lkx
    rw [if_neg (by decide), if_pos (by decide)]
  · have hlk : lkx (Lf F wn mn xn qn held CLs m) p (nI s) = Lf F wn mn xn qn held CLs m p s := by
      unfold lkx
      rw [if_neg (nI_pos (by omega)), nI_clamp (by omega)]
    have hF : τ.1 581 (Int32.toNatClampNeg 0) = nI F := hI.2.2.2.1
    have K3 := K.2.2.1
    rw [hlk]
    unfold s_Model_likesBy
    rw [if_pos (nI_pos' (by omega)), if_pos (show ib 0 2 by decide), hF]
    by_cases q : m < F
    · rw [if_pos (nI_lt q (by omega))]
      obtain ⟨τ', a1, a2, a3⟩ := m_30 K hI hp hs hm (f := 0) (by omega)
      refine ⟨τ', ?_, a2, a3⟩
      rw [nI_0] at a1
      rw [a1]
      unfold Lf
      rw [if_pos q]
    · rw [if_neg (nI_nlt (by omega) (by omega)), c3, Jvm.Pilot.CLostPlacesLaw_law_r3427_12969d.a1, if_pos (ib_nI (by omega) (by omega)), nI_clamp (show 3 * s + 1 < 2 ^ 31 by omega), (hI.2.1 s hs).2.1]
      obtain ⟨τ', a1, a2, a3⟩ := m_30 K hI hp hs hm (f := mn s) (K.2.2.2.2.1 s hs).2.1
      refine ⟨τ', ?_, a2, a3⟩
      rw [a1]
      unfold Lf
      rw [if_neg q]
theorem Lf_r {m : Nat} : ∃ ln, LKr (Lf F wn mn xn qn held CLs m) ln S P := by
  refine ⟨fun p s => (Lf F wn mn xn qn held CLs m p s).toNatClampNeg, fun p s _ _ => ?_⟩
  have : ∃ v, Lf F wn mn xn qn held CLs m p s = cl9 v := by
    unfold Lf Lh
    cases held with
    | none => exact ⟨_, rfl⟩
    | some h => exact ⟨_, rfl⟩
  obtain ⟨v, hv⟩ := this
  obtain ⟨k, k1, k2⟩ := cl9_n v
  have e : (Lf F wn mn xn qn held CLs m p s).toNatClampNeg = k := by rw [hv, k2, nI_clamp (by omega)]
  show Lf F wn mn xn qn held CLs m p s = nI (Lf F wn mn xn qn held CLs m p s).toNatClampNeg ∧ (Lf F wn mn xn qn held CLs m p s).toNatClampNeg < 1000
  rw [e, hv]
  exact ⟨k2, k1⟩
end
