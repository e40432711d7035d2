/-! winter -/
/-- the value drawn from a state of the draws, the next state -/
def dv (s : Int64) (k : Int32) : Int32 := Int64.toInt32 (((Int64.toUInt64 s) >>> ((Int32.toInt64 33).toUInt64 &&& Int64.toUInt64 63)).toInt64 - ((Int64.toUInt64 s) >>> ((Int32.toInt64 33).toUInt64 &&& Int64.toUInt64 63)).toInt64 / (Int32.toInt64 k) * (Int32.toInt64 k))
def dn (s : Int64) : Int64 := (s * 6364136223846793005) + 1442695040888963407
theorem dv3 (s : Int64) : ∃ d, d ≤ 2 ∧ dv s 3 = nI d := by
  unfold dv
  obtain ⟨u, hu⟩ : ∃ u, u = (Int64.toUInt64 s) >>> ((Int32.toInt64 33).toUInt64 &&& Int64.toUInt64 63) := ⟨_, rfl⟩
  rw [← hu]
  have h31 : u.toNat < 2 ^ 31 := by
    rw [hu, show ((Int32.toInt64 33).toUInt64 &&& Int64.toUInt64 63) = 33 by decide, UInt64.toNat_shiftRight, show (33 : UInt64).toNat % 64 = 33 by decide, Nat.shiftRight_eq_div_pow]
    have := s.toUInt64.toNat_lt
    omega
  clear hu
  have hx : u.toInt64.toInt = (u.toNat : Int) := by
    rw [← UInt64.ofNat_toNat (x := u), UInt64.toInt64_ofNat', Int64.toInt_ofNat_of_lt (by omega), UInt64.ofNat_toNat]
  have h3 : (Int32.toInt64 3).toInt = 3 := by decide
  generalize u.toNat = n at h31 hx
  have hd : (u.toInt64 / Int32.toInt64 3).toInt = ((n / 3 : Nat) : Int) := by
    rw [Int64.toInt_div, hx, h3, Int.tdiv_eq_ediv_of_nonneg (by omega)]
    rw [Int.bmod_eq_of_le (by omega) (by omega)]
    omega
  have hm : (u.toInt64 / Int32.toInt64 3 * Int32.toInt64 3).toInt = ((n / 3 * 3 : Nat) : Int) := by
    rw [Int64.toInt_mul, hd, h3, Int.bmod_eq_of_le (by omega) (by omega)]
    omega
  have hs : (u.toInt64 - u.toInt64 / Int32.toInt64 3 * Int32.toInt64 3).toInt = ((n % 3 : Nat) : Int) := by
    rw [Int64.toInt_sub, hx, hm, Int.bmod_eq_of_le (by omega) (by omega)]
    omega
  refine ⟨n % 3, by omega, Int32.toInt_inj.mp ?_⟩
  rw [Int64.toInt_toInt32, hs, nI_toInt (by omega), Int.bmod_eq_of_le (by omega) (by omega)]
theorem stJ_b {σ : LH} {a i b : Nat} {v : Int64} : (stJ σ a i v).2.1 b = if b = a then vp_updL (σ.2.1 a) i v else σ.2.1 b := rfl
theorem stJ_r {σ : LH} {a i : Nat} {v : Int64} : (stJ σ a i v).2.1 a i = v := by
  rw [stJ_b, if_pos rfl]
  unfold vp_updL
  rw [if_pos rfl]
theorem updL_2 {f : Nat → Int64} {i : Nat} {v v' : Int64} : vp_updL (vp_updL f i v) i v' = vp_updL f i v' := by
  funext j
  unfold vp_updL
  by_cases z : j = i
  · rw [if_pos z, if_pos z]
  · rw [if_neg z, if_neg z, if_neg z]
theorem stJ_l {σ : LH} {a i : Nat} {v v' : Int64} : (stJ (stJ σ a i v) a i v').2.1 = (stJ σ a i v').2.1 := by
  funext b
  rw [stJ_b, stJ_b (σ := σ) (v := v')]
  by_cases q : b = a
  · rw [if_pos q, if_pos q, stJ_b, if_pos rfl, updL_2]
  · rw [if_neg q, if_neg q, stJ_b, if_neg q]
theorem stJ_2 {σ : LH} {a i : Nat} {v v' : Int64} : stJ (stJ σ a i v) a i v' = stJ σ a i v' := Prod.ext rfl (Prod.ext stJ_l rfl)
theorem stJ_c {σ σ' : LH} {a i : Nat} {v : Int64} (h : σ'.2 = σ.2) : (stJ σ' a i v).2 = (stJ σ a i v).2 := by
  unfold stJ
  rw [h]
theorem c_dr {σ : LH} {s : Int64} {k : Int32} (hk : k = 100 ∨ k = 3) (h : σ.2.1 38 6 = s) : s_Evening_draw k σ = some (dv (dn s) k, stJ σ 38 6 (dn s)) := by
  unfold s_Evening_draw
  simp only [xl]
  rw [h]
  have e : (stJ σ 38 6 (s * 6364136223846793005 + 1442695040888963407)).2.1 38 6 = dn s := stJ_r
  rw [e]
  rcases hk with rfl | rfl
  · rw [if_neg (show ¬ (100 : Int32) ≤ 0 by decide), if_pos (show ¬ Int32.toInt64 100 = 0 by decide)]
    rfl
  · rw [if_neg (show ¬ (3 : Int32) ≤ 0 by decide), if_pos (show ¬ Int32.toInt64 3 = 0 by decide)]
    rfl
theorem m_dr {τ : LH} {s : Int64} {k : Int32} (hk : k = 100 ∨ k = 3) (h : τ.2.1 570 47 = s) : s_Model_draw k τ = some (dv (dn s) k, stJ τ 570 47 (dn s)) := by
  unfold s_Model_draw
  simp only [xl]
  rw [h]
  have e : (stJ τ 570 47 (s * 6364136223846793005 + 1442695040888963407)).2.1 570 47 = dn s := stJ_r
  rw [e]
  rcases hk with rfl | rfl
  · rw [if_pos (show ¬ Int32.toInt64 100 = 0 by decide)]
    rfl
  · rw [if_pos (show ¬ Int32.toInt64 3 = 0 by decide)]
    rfl
/-- both draw alike -/
theorem st_dr {σ τ : LH} {s : Int64} (h1 : σ.2.1 38 6 = s) (h2 : τ.2.1 570 47 = s) : ∃ r s', s_Evening_draw 100 σ = some (r, stJ σ 38 6 s') ∧ s_Model_draw 100 τ = some (r, stJ τ 570 47 s') := ⟨_, _, c_dr (Or.inl rfl) h1, m_dr (Or.inl rfl) h2⟩
theorem st_dr3 {σ τ : LH} {s : Int64} (h1 : σ.2.1 38 6 = s) (h2 : τ.2.1 570 47 = s) : ∃ d s', d ≤ 2 ∧ s_Evening_draw 3 σ = some (nI d, stJ σ 38 6 s') ∧ s_Model_draw 3 τ = some (nI d, stJ τ 570 47 s') := by
  obtain ⟨d, d1, d2⟩ := dv3 (dn s)
  refine ⟨d, dn s, d1, ?_, ?_⟩
  · rw [← d2]
    exact c_dr (Or.inr rfl) h1
  · rw [← d2]
    exact m_dr (Or.inr rfl) h2
section
variable {I J : LH → Prop} {σ τ σ0 τ0 σ' τ' : LH} {S P n0 ne n eN E mm M k N : Nat} {go ex : Nat → Nat} {who : Option Nat} {L : Nat → Nat → Nat → Int32} {ln : Nat → Nat → Nat → Nat} {qn sn : Nat → Nat}
/-- a minute gone, without remembering -/
theorem GI.pass (hI : Icl I) (hIp : Ipast I J) (hL : LKok I P S L) (h : GI I J σ τ S P n0 ne n eN go ex who L ln qn sn mm M k N) (hm : mm + 1 < eN) (heN : eN ≤ 101) (hM : M ≤ 1000 * mm) : ∃ σ2 τ2 M2, s_Evening_pass 39 σ = some σ2 ∧ s_Model_goMinute 583 τ = some τ2 ∧ M2 < M + 1000 ∧ GI I J σ2 τ2 S P n0 ne n eN go ex who L ln qn sn (mm + 1) M2 k N := by
  obtain ⟨K1, ⟨R1, W1, O1, M1⟩, G1, P1, I1, J1⟩ := h
  have hS8 : S ≤ 8 := K1.1.2.1
  have hP8 : P ≤ 8 := K1.1.2.2.2.1
  obtain ⟨w', A', d, r, d1, d2, d3, d4, d5, d6, d7, d8, -, -, -⟩ := st_minute K1 (show 39 ≤ 39 by omega) (by omega : mm < 100) (by omega) R1 W1 O1 M1 (by omega) (τ.1 570 41)
  rw [sH_gH] at d2
  have J1 : J (sH σ 39 w') := hIp.2.1 _ _ J1
  obtain ⟨⟨τ2, m1, m2⟩, -⟩ := m_goMinute hI hL (Or.inl rfl) K1.2.1 (by omega : mm < 101) (by omega : 1000 < 10000) W1.1 (Mt.rf I1) d3
  have aA := m2.A (Or.inl rfl)
  have ml2 : mLK τ τ2 := ⟨fun b hb => m2.arr (by omega) (by omega) (by omega) (by omega), fun j hj => m2.fld (Or.inl rfl) (by omega) (by omega)⟩
  have cl2 : cLK σ (sH σ 39 w') := fun b hb => sH_lo (by omega)
  have lo2 : ∀ b, b = 5 ∨ b = 7 ∨ b = 9 ∨ b = 10 ∨ b = 34 → (sH σ 39 w').1 b = σ.1 b := fun b hb => sH_lo (by omega)
  have eg2 : ∀ c, c < 9 → gH (sH σ 39 w') 39 c = w' c := gH_sH
  have we2 : WE w' (gH (sH σ 39 w') 39) := ⟨fun c _ _ j _ => by rw [eg2 c (by omega)], by rw [eg2 0 (by omega)], by rw [eg2 0 (by omega)], by rw [eg2 0 (by omega)]⟩
  refine ⟨sH σ 39 w', τ2, M + d, d2, m1, by omega, K1.cg cl2 ml2, ?_, ?_, ?_, m2.2, J1⟩
  · rw [aA]
    exact (HR.s (σ' := sH σ 39 w') (⟨d4, d5, d6, d7⟩ : HR σ S P n (mm + 1) (M + d) w' A') lo2).cp we2 hS8 hP8 (fun _ _ => rfl)
  · rw [aA]
    exact (d8 G1).cp we2.2.2.1 (fun j _ => by rw [eg2 8 (by omega)]) (fun _ _ _ => rfl)
  · obtain ⟨p1, p2, p3, p4, p5, p6⟩ := P1
    refine ⟨?_, ?_, ?_, p4, p5, fun i hi => ?_⟩
    · rw [sH_lo (by omega)]; exact p1
    · rw [sH_lo (by omega)]; exact p2
    · rw [m2.fld (Or.inl rfl) (by omega) (by omega)]; exact p3
    · have old := p6 i hi
      have e90 : τ2.1 590 = τ.1 590 := m2.arr (by omega) (by omega) (by omega) (by omega)
      generalize (N + 40 - i) % 40 = x at old ⊢
      have ex : ∀ c, c < 9 → gH (sH σ 39 w') (210 + 9 * x) c = gH σ (210 + 9 * x) c := fun c hc => sH_hi (by omega)
      exact old.cp hS8 hP8 lo2 ⟨fun c _ _ j _ => by rw [ex c (by omega)], by rw [ex 0 (by omega)], by rw [ex 0 (by omega)], by rw [ex 0 (by omega)]⟩ (fun j _ => by rw [ex 8 (by omega)]) (fun j hj => by rw [e90])
/-- GI over frames from a seeded state -/
def GSd (I : LH → Prop) (σ0 τ0 : LH) (s : Int64) (σ τ : LH) (S P n0 n E : Nat) (go : Nat → Nat) (L : Nat → Nat → Nat → Int32) (ln : Nat → Nat → Nat → Nat) (qn sn : Nat → Nat) (mm M k N : Nat) : Prop :=
  GI (I0 I (stJ τ0 570 47 s)) (J0 (stJ σ0 38 6 s)) σ τ S P n0 0 n (E + 1) go (fun _ => 0) none L ln qn sn mm M k N
theorem GSd.s1 {s : Int64} (h : GSd I σ0 τ0 s σ τ S P n0 n E go L ln qn sn mm M k N) : σ.2.1 38 6 = s := by
  have := h.2.2.2.2.2.2.2
  rw [this]
  exact stJ_r
theorem GSd.s2 {s : Int64} (h : GSd I σ0 τ0 s σ τ S P n0 n E go L ln qn sn mm M k N) : τ.2.1 570 47 = s := by
  have := h.2.2.2.2.1.2.2.1 570 (by omega)
  rw [this]
  exact stJ_r
theorem GSd.st {s : Int64} (hD : Idep I) (h : GSd I σ0 τ0 s σ τ S P n0 n E go L ln qn sn mm M k N) (s' : Int64) : GSd I σ0 τ0 s' (stJ σ 38 6 s') (stJ τ 570 47 s') S P n0 n E go L ln qn sn mm M k N := by
  obtain ⟨K, hH, hG, hP, ⟨i1, i2, i3, i4⟩, j1, j2, j3⟩ := h
  refine ⟨K.cg (fun _ _ => rfl) ⟨fun _ _ => rfl, fun _ _ => rfl⟩, hH.s (fun _ _ => rfl), hG, ?_, ⟨hD τ _ i1 (fun _ _ => rfl) rfl ?_, fun b j q => i2 b j q, fun b q => ?_, ?_⟩, fun b q1 q2 q3 => j1 b q1 q2 q3, fun j q1 q2 => j2 j q1 q2, ?_⟩
  · obtain ⟨p1, p2, p3, p4, p5, p6⟩ := hP
    exact ⟨p1, p2, p3, p4, p5, fun i hi => (p6 i hi).cp K.1.2.1 K.1.2.2.2.1 (fun _ _ => rfl) ⟨fun _ _ _ _ _ => rfl, rfl, rfl, rfl⟩ (fun _ _ => rfl) (fun _ _ => rfl)⟩
  · rw [stJ_b, if_neg (by omega)]
  · have e := i3 b q
    by_cases z : b = 570
    · subst z
      rw [stJ_b, stJ_b, if_pos rfl, if_pos rfl, e, stJ_b, if_pos rfl, updL_2]
    · rw [stJ_b, if_neg z, stJ_b, if_neg z, e, stJ_b, if_neg z]
  · exact i4
  · rw [stJ_c j3, stJ_2]
theorem GSd.f1 {s : Int64} (h : GSd I σ0 τ0 s σ τ S P n0 n E go L ln qn sn mm M k N) : σ.1 1 8 = σ0.1 1 8 := h.2.2.2.2.2.2.1 8 (by omega) (by omega)
theorem GSd.f2 {s : Int64} (h : GSd I σ0 τ0 s σ τ S P n0 n E go L ln qn sn mm M k N) : τ.1 570 36 = τ0.1 570 36 := h.2.2.2.2.1.2.1 570 36 (by unfold wX; omega)
theorem GSd.m {s : Int64} (h : GSd I σ0 τ0 s σ τ S P n0 n E go L ln qn sn mm M k N) : τ.1 570 27 = nI P := h.1.2.1.2.2.1
/-- a sitter stirring: what it comes to in the class, in the model -/
theorem sC0 {u : Int32} {recC : Int32 → LH → Option LH} {y : Nat} (hP : σ.1 4 1 = nI P) (hP8 : P ≤ 8) (hy : y < P) (q : σ.1 40 y = -2) : s_Evening_stir_2_b 39 u recC (nI y) σ = recC (nI (y + 1)) σ := by
  unfold s_Evening_stir_2_b s_Evening_stir_47
  rw [hP, if_neg (nI_ge hy (by omega)), if_pos (ib_nI (by omega) (by omega)), nI_clamp (show y < 2 ^ 31 by omega)]
  simp only [xl]
  rw [if_pos (show σ.1 (39 + 1) y = -2 from q), nI_1]
theorem sC1 {u v : Int32} {recC : Int32 → LH → Option LH} {y : Nat} {σ1 : LH} (hP : σ.1 4 1 = nI P) (hP8 : P ≤ 8) (hy : y < P) (q : ¬ σ.1 40 y = -2) (hd : s_Evening_draw 100 σ = some (v, σ1)) : s_Evening_stir_2_b 39 u recC (nI y) σ = if u ≤ v then recC (nI (y + 1)) σ1 else xb2 (s_Evening_draw 3 σ1) fun r10 σ11 => xb1 (s_Hall_getUp 39 (nI y) (1 + r10) 1 σ11) fun σ13 => recC (nI (y + 1)) σ13 := by
  unfold s_Evening_stir_2_b s_Evening_stir_47
  rw [hP, if_neg (nI_ge hy (by omega)), if_pos (ib_nI (by omega) (by omega)), nI_clamp (show y < 2 ^ 31 by omega)]
  simp only [xl]
  rw [if_neg (show ¬ σ.1 (39 + 1) y = -2 from q), nI_1, hd]
  rfl
theorem sC2 {recC : Int32 → LH → Option LH} {y d : Nat} {σ1 σ2 σ3 : LH} {k : Int32} (hd : s_Evening_draw 3 σ1 = some (nI d, σ2)) (hu : s_Hall_getUp 39 (nI y) (nI (d + 1)) 1 σ2 = some σ3) : (xb2 (s_Evening_draw 3 σ1) fun r10 σ11 => xb1 (s_Hall_getUp 39 (nI y) (1 + r10) 1 σ11) fun σ13 => recC k σ13) = recC k σ3 := by
  have e : (1 : Int32) + nI d = nI (d + 1) := by rw [Int32.add_comm]; exact nI_1 d
  rw [hd]
  simp only [xb2]
  rw [e, hu]
  rfl
theorem xb2_so {β : Type} {r : Int32} {s : LH} {f : Int32 → LH → Option β} : xb2 (some (r, s)) f = f r s := rfl
theorem sM0 {p0 : Int32} {p1 : Int64} {rec : Int32 → LH → Option (Int32 × LH)} {recM : Int32 → Int32 → LH → Option (Int32 × LH)} {ye : Int32} {y : Nat} (hP : τ.1 570 27 = nI P) (hP8 : P ≤ 8) (hy : y < P) (q : τ.1 583 (4 * y) = -2) : s_Model_winter_54_b p0 p1 rec recM ye (nI y) τ = recM ye (nI (y + 1)) τ := by
  unfold s_Model_winter_54_b
  rw [hP, if_neg (nI_ge hy (by omega)), m_isHere (by omega), if_pos q, xb2_so, if_pos rfl]
  show recM ye (nI y + 1) τ = _
  rw [nI_1]
theorem sM1 {p0 : Int32} {p1 : Int64} {rec : Int32 → LH → Option (Int32 × LH)} {recM : Int32 → Int32 → LH → Option (Int32 × LH)} {ye u v : Int32} {y : Nat} {τ1 : LH} (hP : τ.1 570 27 = nI P) (hP8 : P ≤ 8) (hy : y < P) (q : ¬ τ.1 583 (4 * y) = -2) (hd : s_Model_draw 100 τ = some (v, τ1)) (hu : τ1.1 570 36 = u) : s_Model_winter_54_b p0 p1 rec recM ye (nI y) τ = if u ≤ v then recM ye (nI (y + 1)) τ1 else xb2 (s_Model_draw 3 τ1) fun r29 σ30 => xb1 (s_Model_goesUp 583 (nI y) (1 + r29) 1 σ30) fun σ32 => recM ye (nI (y + 1)) σ32 := by
  unfold s_Model_winter_54_b
  rw [hP, if_neg (nI_ge hy (by omega)), m_isHere (by omega), if_neg q, xb2_so, if_neg (show ¬ (1 : Int32) = 0 by decide), hd, xb2_so, hu]
  by_cases z : u ≤ v
  · rw [if_pos z, if_pos z]
    show recM ye (nI y + 1) τ1 = _
    rw [nI_1]
  · rw [if_neg z, if_neg z, ← nI_1]
    rfl
theorem sM2 {recM : Int32 → Int32 → LH → Option (Int32 × LH)} {y d : Nat} {τ1 τ2 τ3 : LH} {k ye : Int32} (hd : s_Model_draw 3 τ1 = some (nI d, τ2)) (hu : s_Model_goesUp 583 (nI y) (nI (d + 1)) 1 τ2 = some τ3) : (xb2 (s_Model_draw 3 τ1) fun r29 σ30 => xb1 (s_Model_goesUp 583 (nI y) (1 + r29) 1 σ30) fun σ32 => recM ye k σ32) = recM ye k τ3 := by
  have e : (1 : Int32) + nI d = nI (d + 1) := by rw [Int32.add_comm]; exact nI_1 d
  rw [hd]
  simp only [xb2]
  rw [e, hu]
  rfl
theorem stir_one {p0 : Int32} {p1 : Int64} {u ye : Int32} {y : Nat} {rec : Int32 → LH → Option (Int32 × LH)} {recC : Int32 → LH → Option LH} {recM : Int32 → Int32 → LH → Option (Int32 × LH)} {s : Int64} (hD : Idep I) (hu2 : τ0.1 570 36 = u) (hm : mm < 100) (h : GSd I σ0 τ0 s σ τ S P n0 n E go L ln qn sn mm M k N) (hy : y < P) : ∃ s' σ' τ', s_Evening_stir_2_b 39 u recC (nI y) σ = recC (nI (y + 1)) σ' ∧ s_Model_winter_54_b p0 p1 rec recM ye (nI y) τ = recM ye (nI (y + 1)) τ' ∧ GSd I σ0 τ0 s' σ' τ' S P n0 n E go L ln qn sn mm M k N := by
  have hP : σ.1 4 1 = nI P := h.1.1.2.2.1
  have hP8 : P ≤ 8 := h.1.1.2.2.2.1
  have c1 : σ.1 40 y = τ.1 583 (4 * y) := h.2.1.1.c1 y hy
  by_cases q : τ.1 583 (4 * y) = -2
  · exact ⟨s, σ, τ, sC0 hP hP8 hy (c1.trans q), sM0 h.m hP8 hy q, h⟩
  · obtain ⟨v, t, e1, e2⟩ := st_dr h.s1 h.s2
    have h1 := h.st hD t
    have a := sC1 (u := u) (recC := recC) hP hP8 hy (by rw [c1]; exact q) e1
    have b := sM1 (p0 := p0) (p1 := p1) (rec := rec) (recM := recM) (ye := ye) (u := u) h.m hP8 hy q e2 (h1.f2.trans hu2)
    by_cases q2 : u ≤ v
    · rw [if_pos q2] at a b
      exact ⟨t, _, _, a, b, h1⟩
    · rw [if_neg q2] at a b
      obtain ⟨d, t3, d1, e3, e4⟩ := st_dr3 h1.s1 h1.s2
      have h2 := h1.st hD t3
      obtain ⟨u1, u2, h3⟩ := GI.up (b := 1) (d := d + 1) (p := y) (I0.cl hD) (I0.past hD) h2 (by omega) hy (by omega)
      exact ⟨t3, _, _, a.trans (sC2 e3 u1), b.trans (sM2 e4 u2), h3⟩
/-- a minute of sitters stirring, in both -/
theorem st_stir {p0 : Int32} {p1 : Int64} {u ye : Int32} {rec : Int32 → LH → Option (Int32 × LH)} (hD : Idep I) (hu2 : τ0.1 570 36 = u) (hm : mm < 100) : ∀ (r f f' y : Nat) (s : Int64) (σ τ : LH), GSd I σ0 τ0 s σ τ S P n0 n E go L ln qn sn mm M k N → y + r = P → r < f → r < f' → ∃ s' σ' τ', s_Evening_stir_2 39 u f (nI y) σ = some σ' ∧ GSd I σ0 τ0 s' σ' τ' S P n0 n E go L ln qn sn mm M k N ∧ s_Model_winter_54 p0 p1 rec f' ye (nI y) τ = xb1 (s_Model_goMinute 583 τ') (fun τ2 => xl ((ye + 1) : Int32) fun x => rec x τ2) := by
  intro r
  induction r with
  | zero =>
    intro f f' y s σ τ h hy hf hf'
    obtain ⟨f, rfl⟩ : ∃ q, f = q + 1 := ⟨f - 1, by omega⟩
    obtain ⟨f', rfl⟩ : ∃ q, f' = q + 1 := ⟨f' - 1, by omega⟩
    have hP : σ.1 4 1 = nI P := h.1.1.2.2.1
    have hP8 : P ≤ 8 := h.1.1.2.2.2.1
    refine ⟨s, σ, τ, ?_, h, ?_⟩
    · rw [s_Evening_stir_2]
      unfold s_Evening_stir_2_b
      rw [hP, if_pos (nI_le (by omega) (by omega))]
    · rw [s_Model_winter_54]
      unfold s_Model_winter_54_b
      rw [h.m, if_pos (nI_le (by omega) (by omega))]
  | succ r ih =>
    intro f f' y s σ τ h hy hf hf'
    obtain ⟨f, rfl⟩ : ∃ q, f = q + 1 := ⟨f - 1, by omega⟩
    obtain ⟨f', rfl⟩ : ∃ q, f' = q + 1 := ⟨f' - 1, by omega⟩
    obtain ⟨s1, σ1, τ1, a1, b1, h1⟩ := stir_one (p0 := p0) (p1 := p1) (ye := ye) (rec := rec) (recC := s_Evening_stir_2 39 u f) (recM := s_Model_winter_54 p0 p1 rec f') hD hu2 hm h (show y < P by omega)
    obtain ⟨s2, σ2, τ2, a2, h2, b2⟩ := ih f f' (y + 1) s1 σ1 τ1 h1 (by omega) (by omega) (by omega)
    refine ⟨s2, σ2, τ2, ?_, h2, ?_⟩
    · rw [s_Evening_stir_2, a1]
      exact a2
    · rw [s_Model_winter_54, b1]
      exact b2
theorem win_loop {p1 : Int64} {u : Int32} {g : Nat} (hD : Idep I) (hL : LKok I P S L) (hu : σ0.1 1 8 = u) (hu2 : τ0.1 570 36 = u) (hE : E < 100) (hg : g < 100) : ∀ (r f f' y mm M k N : Nat) (s : Int64) (σ τ : LH), GSd I σ0 τ0 s σ τ S P n0 n E go L ln qn sn mm M k N → y + r = g → r < f → r < f' → mm + r ≤ E → M ≤ 1000 * mm → ∃ s' σ' τ' M' k' N', s_Main_winter_32 (nI g) p1 f (nI y) σ = some (nI (mm + r), σ') ∧ s_Model_winter_41 (nI g) p1 f' (nI y) τ = some (nI (mm + r), τ') ∧ M' ≤ 1000 * (mm + r) ∧ GSd I σ0 τ0 s' σ' τ' S P n0 n E go L ln qn sn (mm + r) M' k' N' := by
  intro r
  induction r with
  | zero =>
    intro f f' y mm M k N s σ τ h hy hf hf' hmE hM
    obtain ⟨f, rfl⟩ : ∃ q, f = q + 1 := ⟨f - 1, by omega⟩
    obtain ⟨f', rfl⟩ : ∃ q, f' = q + 1 := ⟨f' - 1, by omega⟩
    obtain ⟨e1, e2⟩ := GI.mm h
    refine ⟨s, σ, τ, M, k, N, ?_, ?_, by omega, h⟩
    · rw [s_Main_winter_32]
      unfold s_Main_winter_32_b
      rw [if_pos (nI_le (by omega) (by omega)), e1]
      rfl
    · rw [s_Model_winter_41]
      unfold s_Model_winter_41_b
      rw [if_pos (nI_le (by omega) (by omega)), if_pos (show ib 48 290 by decide), show τ.1 583 (Int32.toNatClampNeg 48) = nI mm from e2]
      rfl
  | succ r ih =>
    intro f f' y mm M k N s σ τ h hy hf hf' hmE hM
    obtain ⟨f, rfl⟩ : ∃ q, f = q + 1 := ⟨f - 1, by omega⟩
    obtain ⟨f', rfl⟩ : ∃ q, f' = q + 1 := ⟨f' - 1, by omega⟩
    have hP8 : P ≤ 8 := h.1.1.2.2.2.1
    obtain ⟨σ1, τ1, a1, b1, h1, -, -⟩ := GI.rem (I0.past hD) h (by omega) hM
    obtain ⟨s2, σ2, τ2, a2, h2, b2⟩ := st_stir (p0 := nI g) (p1 := p1) (ye := nI y) (u := u) (rec := s_Model_winter_41 (nI g) p1 f') hD hu2 (by omega : mm < 100) P FUEL FUEL 0 s σ1 τ1 h1 (by omega) (by unfold FUEL; omega) (by unfold FUEL; omega)
    obtain ⟨σ3, τ3, M3, a3, b3, hM3, h3⟩ := GI.pass (I0.cl hD) (I0.past hD) (I0.lk hL) h2 (by omega) (by omega) hM
    obtain ⟨s4, σ4, τ4, M4, k4, N4, a4, b4, hM4, h4⟩ := ih f f' (y + 1) (mm + 1) M3 _ _ s2 σ3 τ3 h3 (by omega) (by omega) (by omega) (by omega) (by omega)
    rw [show mm + 1 + r = mm + (r + 1) by omega] at a4 b4 hM4 h4
    rw [nI_0] at a2 b2
    refine ⟨s4, σ4, τ4, M4, k4, N4, ?_, ?_, hM4, h4⟩
    · rw [s_Main_winter_32]
      unfold s_Main_winter_32_b
      rw [if_neg (nI_ge (by omega) (by omega)), a1]
      simp only [xb1]
      rw [GSd.f1 h1, hu]
      unfold s_Evening_stir
      rw [a2]
      simp only
      rw [a3]
      simp only [xl]
      rw [nI_1]
      exact a4
    · rw [s_Model_winter_41]
      unfold s_Model_winter_41_b
      rw [if_neg (nI_ge (by omega) (by omega)), b1]
      simp only [xb1]
      rw [b2, b3]
      simp only [xb1, xl]
      rw [nI_1]
      exact b4
end
section
variable {V : LH → LH → Prop} {σ τ σ' τ' : LH} {S P F E n0 n cnt mm M k N c : Nat} {wn mn xn qn sn go : Nat → Nat} {held : Option Nat} {Bt : Nat → Nat → Nat} {le : Nat → Nat} {CLs : Nat → CL} {ln : Nat → Nat → Nat → Nat}
/-- the state of the draws apart -/
theorem NVp.jj (h : NVp V σ τ S P F E n0 n cnt mm M k N wn mn xn qn sn go held Bt le CLs ln) (hV : Vcl V) (s s' : Int64) : NVp V (stJ σ 38 6 s) (stJ τ 570 47 s') S P F E n0 n cnt mm M k N wn mn xn qn sn go held Bt le CLs ln := by
  obtain ⟨⟨K, T, hH, x4, x5, x6, x7, x8, x9, x10, x11, x12⟩, hG, ⟨p1, p2, p3, p4, p5, p6⟩, o⟩ := h
  refine ⟨⟨K.cg (fun _ _ => rfl) ⟨fun _ _ => rfl, fun _ _ => rfl⟩, T, hH.s (fun _ _ => rfl), x4, x5, x6, x7, x8, x9, x10, x11, MI.dep τ _ x12 (fun _ _ => rfl) rfl ?_⟩, hG, ⟨p1, p2, p3, p4, p5, fun i hi => (p6 i hi).cp K.1.2.1 K.1.2.2.2.1 (fun _ _ => rfl) ⟨fun _ _ _ _ _ => rfl, rfl, rfl, rfl⟩ (fun _ _ => rfl) (fun _ _ => rfl)⟩, o.fr hV (fun _ _ _ => rfl) (fun _ _ _ => rfl)⟩
  rw [stJ_b, if_neg (by omega)]
theorem w_winter (hV : Vcl V) (h : NV V c σ τ) (x : Int32) (p1 : Int64) : AL V c (s_Main_winter x p1 σ) (s_Model_winter x p1 τ) := by
  obtain ⟨S, P, F, E, n0, n, cnt, mm, M, k, N, wn, mn, xn, qn, sn, go, held, Bt, le, CLs, ln, h, hn⟩ := h
  have hPm : τ.1 570 27 = nI P := h.1.1.2.1.2.2.1
  have hP8 : P ≤ 8 := h.1.P8
  obtain ⟨e1, e2⟩ := h.gi.mm
  have hE := h.1.e100
  have hmE := h.1.mE
  have hEc := h.1.cE
  have hEm := h.1.tE
  have hM := h.1.M1
  obtain ⟨d, rfl⟩ : ∃ d, E = mm + d := ⟨E - mm, by omega⟩
  have eM : s_Model_winter x p1 τ = if P = 0 then some (-1, stI τ 570 0 0) else if 1 ≤ x ∧ x ≤ (if nI d < 60 then nI d else 60) then s_Model_winter_41 x p1 FUEL 0 (stJ (stI τ 570 0 0) 570 47 p1) else some (-1, stI τ 570 0 0) := by
    have e27 : (stI τ 570 0 0).1 570 27 = nI P := by rw [stI_570, if_neg (by omega)]; exact hPm
    unfold s_Model_winter
    simp only [xl]
    rw [e27]
    by_cases q : P = 0
    · rw [if_pos q, if_pos (show nI P = 0 by rw [q]; rfl)]
      rfl
    · rw [if_neg q, if_neg (show ¬ nI P = 0 from fun z => q (nI_ij (b := 0) (by omega) (by omega) z))]
      unfold s_Model_left
      rw [if_pos (show ib 1 2 by decide), if_pos (show ib 48 290 by decide), stI_n (by omega), stI_n (by omega), show τ.1 581 (Int32.toNatClampNeg 1) = nI (mm + d) from hEm, show τ.1 583 (Int32.toNatClampNeg 48) = nI mm from e2, nI_sb]
      simp only [xb2]
      rw [show (1 : Int64) = Int32.toInt64 1 from rfl, m_isIn]
      simp only
      by_cases q2 : 1 ≤ x ∧ x ≤ (if nI d < 60 then nI d else 60)
      · rw [if_pos q2, if_neg (show ¬ (1 : Int32) = 0 by decide), if_pos q2]
      · rw [if_neg q2, if_pos rfl, if_neg q2]
        rfl
  have eC : s_Main_winter x p1 σ = if 1 ≤ x ∧ x ≤ 60 ∧ x ≤ nI d then s_Main_winter_32 x p1 FUEL 0 (stJ σ 38 6 p1) else some (-1, σ) := by
    unfold s_Main_winter s_Main_minutesLeft
    by_cases q1 : x < 1
    · rw [if_pos q1, if_neg (fun z => Int32.not_le.mpr q1 z.1)]
      rfl
    · rw [if_neg q1]
      by_cases q2 : 60 < x
      · rw [if_pos q2, if_neg (fun z => Int32.not_le.mpr q2 z.2.1)]
        rfl
      · rw [if_neg q2, hEc, e1, nI_sb]
        simp only [xb2]
        by_cases q3 : x ≤ nI d
        · rw [if_pos q3, if_pos ⟨Int32.not_lt.mp q1, Int32.not_lt.mp q2, q3⟩]
          unfold s_Evening_seed
          simp only [xb1, xl]
        · rw [if_neg q3, if_neg (fun z => q3 z.2.2)]
          rfl
  have cond : (1 ≤ x ∧ x ≤ (if nI d < 60 then nI d else 60)) ↔ (1 ≤ x ∧ x ≤ 60 ∧ x ≤ nI d) := by
    by_cases q : nI d < 60
    · rw [if_pos q]
      exact ⟨fun z => ⟨z.1, Int32.le_of_lt (Int32.lt_of_le_of_lt z.2 q), z.2⟩, fun z => ⟨z.1, z.2.2⟩⟩
    · rw [if_neg q]
      exact ⟨fun z => ⟨z.1, z.2, Int32.le_trans z.2 (Int32.not_lt.mp q)⟩, fun z => ⟨z.1, z.2.1⟩⟩
  by_cases q : 1 ≤ x ∧ x ≤ 60 ∧ x ≤ nI d
  · obtain ⟨g, rfl, g1, g2⟩ := nI_btw (a := 1) (b := d) (by omega) (by omega) q.1 q.2.2
    have qP : ¬ P = 0 := fun z => by have := h.1.pe z; omega
    obtain ⟨u, u1, u2, u3⟩ := h.2.2.2.2.2.2.2.2.2.2.1
    have h' := h.jj hV p1 p1
    have hz := h'.gi.z (I0.z MI.dep h'.gi.2.2.2.2.1)
    obtain ⟨s', σ', τ', M', k', N', r1, r2, r3, r4⟩ := win_loop (σ0 := σ) (τ0 := τ) (p1 := p1) (u := nI u) (g := g) MI.dep h.lk u2 u3 hE (by omega) g FUEL FUEL 0 mm M k N p1 (stJ σ 38 6 p1) (stI (stJ τ 570 47 p1) 570 0 0) hz (by omega) (by unfold FUEL; omega) (by unfold FUEL; omega) (by omega) hM
    rw [nI_0] at r1 r2
    rw [if_pos q] at eC
    rw [if_neg qP, if_pos (cond.mpr q)] at eM
    exact (h.jj hV s' s').ac hV hn (eC.trans r1) (eM.trans r2) r4 (by omega) r3
  · rw [if_neg q] at eC
    rw [if_neg (fun z => q (cond.mp z)), ite_self] at eM
    exact h.no hV hn _ eC eM
end
