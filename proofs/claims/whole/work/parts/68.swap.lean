/-! both: two change places -/
theorem Rw.empty {S P s : Nat} {w : Wd} {A : Nat → Int32} (h : Rw S P w A) (hs : s < S) (hn : ∀ p, p < P → A (4 * p) ≠ nI s) : w 5 s = -1 := by
  rcases h.c5 s hs with ⟨z, -⟩ | ⟨o, ho, -, z, -⟩
  · exact z
  · exact absurd z (hn o ho)
theorem Rw.uniq {S P s p q : Nat} {w : Wd} {A : Nat → Int32} (h : Rw S P w A) (hs : s < S) (hp : p < P) (hq : q < P) (ep : A (4 * p) = nI s) (eq : A (4 * q) = nI s) : p = q := by
  rcases h.c5 s hs with ⟨-, z⟩ | ⟨o, ho, -, -, z⟩
  · exact absurd ep (z p hp)
  · exact (z p hp ep).trans (z q hq eq).symm
theorem h_change {σ : LH} {h p q : Nat} {w : Wd} (hp : p < 8) (hq : q < 8) : s_Hall_change h (nI p) (nI q) (sH σ h w) = some (sH σ h (wPut p (w 1 q) (wPut q (w 1 p) (wPut p (-1) w)))) := by
  unfold s_Hall_change
  rw [h_isSitter hp]
  simp only [xb2]
  rw [if_neg (show ¬ (1 : Int32) = 0 by decide), h_isSitter hq]
  simp only
  rw [if_neg (show ¬ (1 : Int32) = 0 by decide), if_pos (ib_nI hp (by omega))]
  simp only [xl]
  rw [if_pos (ib_nI hq (by omega)), nI_clamp (show p < 2 ^ 31 by omega), nI_clamp (show q < 2 ^ 31 by omega), sH_in (c := 1) (by omega)]
  rw [h_put hp]
  simp only [xb1]
  rw [h_put hq]
  simp only
  rw [h_put hp]
def mSw (p q : Nat) (A : Nat → Int32) : Nat → Int32 := upd (upd A (4 * p) (A (4 * q))) (4 * q) (A (4 * p))
theorem GI.swap {I J : LH → Prop} {σ τ : LH} {S P n0 ne n eN mm M k N p q : Nat} {go ex : Nat → Nat} {who : Option Nat} {L : Nat → Nat → Nat → Int32} {ln : Nat → Nat → Nat → Nat} {qn sn : Nat → Nat} (hI : Icl I) (hIp : Ipast I J) (h : GI I J σ τ S P n0 ne n eN go ex who L ln qn sn mm M k N) (hp : p < P) (hq : q < P) (hpq : p ≠ q) (hp2 : τ.1 583 (4 * p) ≠ -2) (hq2 : τ.1 583 (4 * q) ≠ -2) (hne : τ.1 583 (4 * p) ≠ τ.1 583 (4 * q)) : s_Hall_change 39 (nI p) (nI q) σ = some (sH σ 39 (wPut p (gH σ 39 1 q) (wPut q (gH σ 39 1 p) (wPut p (-1) (gH σ 39))))) ∧ GI I J (sH σ 39 (wPut p (gH σ 39 1 q) (wPut q (gH σ 39 1 p) (wPut p (-1) (gH σ 39))))) (stF τ 583 (mSw p q (τ.1 583))) S P n0 ne n eN go ex who L ln qn sn mm M k N := by
  have hS8 : S ≤ 8 := h.1.1.2.1
  have hP8 : P ≤ 8 := h.1.1.2.2.2.1
  obtain ⟨hR, hW, hO, h8⟩ := h.2.1
  obtain ⟨g1, g2, g3⟩ := h.2.2.1
  refine ⟨?_, ?_⟩
  · conv => lhs; rw [← sH_gH (σ := σ) (h := 39)]
    exact h_change (by omega) (by omega)
  · have ep : gH σ 39 1 p = τ.1 583 (4 * p) := hR.c1 p hp
    have eq : gH σ 39 1 q = τ.1 583 (4 * q) := hR.c1 q hq
    rw [ep, eq]
    generalize hA : τ.1 583 = A at hR hW hp2 hq2 hne g2 g3 ⊢
    generalize gH σ 39 = w at hR hO h8 g1 g3 ⊢
    have till : ∀ r, r < P → A (4 * r) ≠ -2 → A (4 * r + 1) = -1 := fun r hr z => by
      rcases hW.2.1 r hr with y | y
      · exact absurd y.1 z
      · exact y.2
    have xp := hW.1.1 p hp
    have xq := hW.1.1 q hq
    obtain ⟨gg, gg1, gg2⟩ := hW.1.2.2
    have kept : ∀ r, r < P → ∀ s, s < S → A (4 * r) = nI s → A (32 + 2 * s) = -1 := fun r hr s hs z => by
      by_cases y : A (32 + 2 * s) = -1
      · exact y
      · exact absurd z (hW.2.2.2.2 s hs y r hr)
    have R1 : Rw S P (wPut p (-1) w) (upd A (4 * p) (-1)) := hR.put hS8 hP8 hp xp (Or.inl rfl) (fun s hs z => absurd z.symm (nI_m1 (by omega))) pk_us (by rw [pk_un (by omega)]; exact till p hp hp2) (fun j _ y _ => pk_un y)
    have W1 : WI S P mm (upd A (4 * p) (-1)) := hW.put hS8 hP8 hp (Or.inl rfl) (by decide) (fun s hs z => absurd z.symm (nI_m1 (by omega))) pk_us (by rw [pk_un (by omega)]; exact till p hp hp2) (fun j _ y _ => pk_un y) ⟨gg, gg1, by rw [pk_un (by omega)]; exact gg2⟩
    have R2 : Rw S P (wPut q (A (4 * p)) (wPut p (-1) w)) (upd (upd A (4 * p) (-1)) (4 * q) (A (4 * p))) := R1.put hS8 hP8 hq (by rw [pk_un (by omega)]; exact xq) xp (fun s hs z => R1.empty hs (fun r hr => by
      by_cases e : r = p
      · rw [e, pk_us]; exact fun y => absurd y.symm (nI_m1 (by omega))
      · rw [pk_un (by omega)]; exact fun y => e (hR.uniq hs hr hp y z))) pk_us (by rw [pk_un (by omega), pk_un (by omega)]; exact till q hq hq2) (fun j _ y _ => pk_un y)
    have W2 : WI S P mm (upd (upd A (4 * p) (-1)) (4 * q) (A (4 * p))) := W1.put hS8 hP8 hq xp hp2 (fun s hs z => by rw [pk_un (by omega)]; exact kept p hp s hs z) pk_us (by rw [pk_un (by omega), pk_un (by omega)]; exact till q hq hq2) (fun j _ y _ => pk_un y) ⟨gg, gg1, by rw [pk_un (by omega), pk_un (by omega)]; exact gg2⟩
    have e3 : ∀ j, upd (upd (upd A (4 * p) (-1)) (4 * q) (A (4 * p))) (4 * p) (A (4 * q)) j = mSw p q A j := fun j => by
      unfold mSw
      rw [upd_e, upd_e, upd_e, upd_e, upd_e]
      by_cases y1 : j = 4 * p
      · rw [if_pos y1, if_neg (by omega), if_pos y1]
      · rw [if_neg y1]
        by_cases y2 : j = 4 * q
        · rw [if_pos y2, if_pos y2]
        · rw [if_neg y2, if_neg y2, if_neg y1, if_neg y1]
    have b0 : mSw p q A (4 * p) = A (4 * q) := by rw [← e3]; exact pk_us
    have bo : ∀ j, j ≠ 4 * p → mSw p q A j = upd (upd A (4 * p) (-1)) (4 * q) (A (4 * p)) j := fun j y => by rw [← e3]; exact pk_un y
    have b1 : mSw p q A (4 * p + 1) = -1 := by rw [bo _ (by omega), pk_un (by omega), pk_un (by omega)]; exact till p hp hp2
    have R3 : Rw S P (wPut p (A (4 * q)) (wPut q (A (4 * p)) (wPut p (-1) w))) (mSw p q A) := R2.put hS8 hP8 hp (by rw [pk_un (by omega), pk_us]; exact Or.inl rfl) xq (fun s hs z => R2.empty hs (fun r hr => by
      by_cases e : r = q
      · rw [e, pk_us]; exact fun y => hne (y.trans z.symm)
      · rw [pk_un (by omega)]
        by_cases e2 : r = p
        · rw [e2, pk_us]; exact fun y => absurd y.symm (nI_m1 (by omega))
        · rw [pk_un (by omega)]; exact fun y => e (hR.uniq hs hr hq y z))) b0 b1 (fun j _ y _ => bo j y)
    have W3 : WI S P mm (mSw p q A) := W2.put hS8 hP8 hp xq hq2 (fun s hs z => by rw [pk_un (by omega), pk_un (by omega)]; exact kept q hq s hs z) b0 b1 (fun j _ y _ => bo j y) ⟨gg, gg1, by rw [bo _ (by omega), pk_un (by omega), pk_un (by omega)]; exact gg2⟩
    have ks : Kst w (wPut p (A (4 * q)) (wPut q (A (4 * p)) (wPut p (-1) w))) := (kst_put.tr kst_put).tr kst_put
    refine h.set hI hIp ⟨R3, W3, hO.kst ks, ks.2.2.trans h8⟩ ⟨ks.2.2.trans g1, ?_, fun i c hi hc => ?_⟩
    · rw [bo _ (by omega), pk_un (by omega), pk_un (by omega)]; exact g2
    · rw [ks.2.1, bo _ (by omega), pk_un (by omega), pk_un (by omega)]; exact g3 i c hi hc
