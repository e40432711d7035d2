/-! the class reads a room: clauses -/
def offR (k : Nat) : Nat := [1, 4, 8].getD k 0
/-- what has been read stands in the class's room -/
def CRm (σ : LH) (rm : Nat) (R : RM) : Prop := (∀ k, k < 4 → σ.1 rm k = nI (R.1 k) ∧ R.1 k ≤ capR k) ∧ (∀ k, k < 3 → ∀ r, r < R.1 k → ∀ i, i < nKR k → σ.1 (rm + offR k + i) r = nI (R.2 k r i)) ∧ σ.1 rm 14 = nI (R.2 3 0 0) ∧ σ.1 rm 15 = nI (R.2 3 0 1)
def wRc (rm b j : Nat) : Prop := (b = 2 ∧ (j = 2 ∨ j = 3)) ∨ b = 27 ∨ (rm ≤ b ∧ b ≤ rm + 10)
section
variable {σ σ' : LH} {B : Nat → Nat} {e a k rm : Nat} {R : RM} {I : Nat → Int32} {f : Int32}
theorem CRm.fr (h : CRm σ rm R) (hf : ∀ b, rm ≤ b → b ≤ rm + 10 → σ'.1 b = σ.1 b) : CRm σ' rm R := by
  obtain ⟨h1, h2, h3, h4⟩ := h
  have e0 := hf rm (by omega) (by omega)
  refine ⟨fun k hk => by rw [e0]; exact h1 k hk, fun k hk r hr i hi => ?_, by rw [e0]; exact h3, by rw [e0]; exact h4⟩
  have hb : offR k + i ≤ 10 := by
    rcases (show k = 0 ∨ k = 1 ∨ k = 2 by omega) with rfl | rfl | rfl
    · have : i < 3 := hi
      show 1 + i ≤ 10; omega
    · have : i < 4 := hi
      show 4 + i ≤ 10; omega
    · have : i < 3 := hi
      show 8 + i ≤ 10; omega
  rw [hf _ (by omega) (by omega)]
  exact h2 k hk r hr i hi
theorem TT.rd (h : TT σ B e) (hf : FR (wRc rm) σ σ') (hrm : 4 ≤ rm) : TT σ' B e := by
  obtain ⟨h1, h2, h3⟩ := h
  exact ⟨h1, by rw [hf.1 2 1 (by unfold wRc; omega)]; exact h2, fun i hi => by rw [hf.1 3 i (by unfold wRc; omega)]; exact h3 i hi⟩
theorem FR.tS : FR (wRc rm) σ (tS σ a f) := (FR.I (by unfold wRc; omega)).tr (FR.I (by unfold wRc; omega))
/-- a row of one kind put behind the others -/
theorem CRm.add (h : CRm σ rm R) (hk : k < 3) (hc : R.1 k < capR k) {it : Nat → Nat} (h1 : ∀ i, i < nKR k → σ'.1 (rm + offR k + i) = upd (σ.1 (rm + offR k + i)) (R.1 k) (nI (it i))) (h2 : ∀ j, σ'.1 rm j = if j = k then nI (R.1 k + 1) else σ.1 rm j) (h3 : ∀ j i, j < 3 → j ≠ k → i < nKR j → σ'.1 (rm + offR j + i) = σ.1 (rm + offR j + i)) : CRm σ' rm (addR R k it) := by
  obtain ⟨c1, c2, c3, c4⟩ := h
  unfold addR
  refine ⟨fun j hj => ?_, fun j hj r hr i hi => ?_, ?_, ?_⟩
  · rw [h2]
    simp only
    by_cases z : j = k
    · rw [if_pos z, if_pos z, z]
      exact ⟨rfl, hc⟩
    · rw [if_neg z, if_neg z]
      exact c1 j hj
  · simp only at hr ⊢
    by_cases z : j = k
    · subst z
      rw [if_pos rfl] at hr
      rw [h1 i hi]
      by_cases y : r = R.1 j
      · rw [if_pos ⟨rfl, y⟩, y, pk_us]
      · rw [if_neg (fun x => y x.2), pk_un y]
        exact c2 j hj r (by omega) i hi
    · rw [if_neg z] at hr
      rw [if_neg (fun x => z x.1), h3 j i hj z hi]
      exact c2 j hj r hr i hi
  · simp only
    rw [if_neg (fun x => by omega), h2, if_neg (by omega)]
    exact c3
  · simp only
    rw [if_neg (fun x => by omega), h2, if_neg (by omega)]
    exact c4
theorem upd_stI {b i : Nat} {v : Int32} : (stI σ b i v).1 b = upd (σ.1 b) i v := by
  funext j
  rw [stI_e, upd_e]
theorem s_seat (h : CRm σ rm R) (hrm : 4 ≤ rm) (hc : R.1 0 < 8) {it : Nat → Nat} : ∃ σ', s_Room_addSeat rm (nI (it 0)) (nI (it 1)) (nI (it 2)) σ = some σ' ∧ CRm σ' rm (addR R 0 it) ∧ (∀ b, b < rm ∨ rm + 10 < b → σ'.1 b = σ.1 b) ∧ σ'.2 = σ.2 := by
  have v := (h.1 0 (by omega)).1
  have e : s_Room_addSeat rm (nI (it 0)) (nI (it 1)) (nI (it 2)) σ = some (stI (stI (stI (stI σ (rm + 1) (R.1 0) (nI (it 0))) (rm + 2) (R.1 0) (nI (it 1))) (rm + 3) (R.1 0) (nI (it 2))) rm 0 (nI (R.1 0 + 1))) := by
    unfold s_Room_addSeat
    simp only [xl]
    simp only [stI_n (show rm ≠ rm + 1 by omega), stI_n (show rm ≠ rm + 2 by omega), stI_n (show rm ≠ rm + 3 by omega), v, if_neg (nI_pos (show R.1 0 < 2 ^ 31 by omega)), if_pos (show nI (R.1 0) < 8 from nI_lt (b := 8) hc (by omega)), if_pos (ib_nI hc (show 8 < 2 ^ 31 by omega)), nI_clamp (show R.1 0 < 2 ^ 31 by omega), nI_1]
  refine ⟨_, e, h.add (by omega) hc (fun i hi => ?_) (fun j => ?_) (fun j i hj hz hi => ?_), fun b hb => ?_, rfl⟩
  · have : i < 3 := hi
    show (stI _ rm 0 _).1 (rm + 1 + i) = upd (σ.1 (rm + 1 + i)) _ _
    rcases (show i = 0 ∨ i = 1 ∨ i = 2 by omega) with rfl | rfl | rfl
    · rw [stI_n (by omega), stI_n (by omega), stI_n (by omega), upd_stI]
    · rw [stI_n (by omega), stI_n (by omega), show rm + 1 + 1 = rm + 2 by omega, upd_stI, stI_n (by omega)]
    · rw [stI_n (by omega), show rm + 1 + 2 = rm + 3 by omega, upd_stI, stI_n (by omega), stI_n (by omega)]
  · rw [stI_e, stI_n (by omega), stI_n (by omega), stI_n (by omega)]
  · have hb : rm + 4 ≤ rm + offR j + i := by
      rcases (show j = 1 ∨ j = 2 by omega) with rfl | rfl
      · show rm + 4 ≤ rm + 4 + i; omega
      · show rm + 4 ≤ rm + 8 + i; omega
    rw [stI_n (by omega), stI_n (by omega), stI_n (by omega), stI_n (by omega)]
  · rw [stI_n (by omega), stI_n (by omega), stI_n (by omega), stI_n (by omega)]
theorem s_sitr (h : CRm σ rm R) (hrm : 4 ≤ rm) (hc : R.1 1 < 8) {it : Nat → Nat} : ∃ σ', s_Room_addSitter rm (nI (it 0)) (nI (it 1)) (nI (it 2)) (nI (it 3)) σ = some σ' ∧ CRm σ' rm (addR R 1 it) ∧ (∀ b, b < rm ∨ rm + 10 < b → σ'.1 b = σ.1 b) ∧ σ'.2 = σ.2 := by
  have v := (h.1 1 (by omega)).1
  have e : s_Room_addSitter rm (nI (it 0)) (nI (it 1)) (nI (it 2)) (nI (it 3)) σ = some (stI (stI (stI (stI (stI σ (rm + 4) (R.1 1) (nI (it 0))) (rm + 5) (R.1 1) (nI (it 1))) (rm + 6) (R.1 1) (nI (it 2))) (rm + 7) (R.1 1) (nI (it 3))) rm 1 (nI (R.1 1 + 1))) := by
    unfold s_Room_addSitter
    simp only [xl]
    simp only [stI_n (show rm ≠ rm + 4 by omega), stI_n (show rm ≠ rm + 5 by omega), stI_n (show rm ≠ rm + 6 by omega), stI_n (show rm ≠ rm + 7 by omega), v, if_neg (nI_pos (show R.1 1 < 2 ^ 31 by omega)), if_pos (show nI (R.1 1) < 8 from nI_lt (b := 8) hc (by omega)), if_pos (ib_nI hc (show 8 < 2 ^ 31 by omega)), nI_clamp (show R.1 1 < 2 ^ 31 by omega), nI_1]
  refine ⟨_, e, h.add (by omega) hc (fun i hi => ?_) (fun j => ?_) (fun j i hj hz hi => ?_), fun b hb => ?_, rfl⟩
  · have : i < 4 := hi
    show (stI _ rm 1 _).1 (rm + 4 + i) = upd (σ.1 (rm + 4 + i)) _ _
    rcases (show i = 0 ∨ i = 1 ∨ i = 2 ∨ i = 3 by omega) with rfl | rfl | rfl | rfl
    · rw [stI_n (by omega), stI_n (by omega), stI_n (by omega), stI_n (by omega), upd_stI]
    · rw [stI_n (by omega), stI_n (by omega), stI_n (by omega), show rm + 4 + 1 = rm + 5 by omega, upd_stI, stI_n (by omega)]
    · rw [stI_n (by omega), stI_n (by omega), show rm + 4 + 2 = rm + 6 by omega, upd_stI, stI_n (by omega), stI_n (by omega)]
    · rw [stI_n (by omega), show rm + 4 + 3 = rm + 7 by omega, upd_stI, stI_n (by omega), stI_n (by omega), stI_n (by omega)]
  · rw [stI_e, stI_n (by omega), stI_n (by omega), stI_n (by omega), stI_n (by omega)]
  · have hb : rm + offR j + i ≤ rm + 3 ∧ rm + 1 ≤ rm + offR j + i ∨ rm + 8 ≤ rm + offR j + i := by
      rcases (show j = 0 ∨ j = 2 by omega) with rfl | rfl
      · have : i < 3 := hi
        show rm + 1 + i ≤ rm + 3 ∧ rm + 1 ≤ rm + 1 + i ∨ rm + 8 ≤ rm + 1 + i; omega
      · show rm + 8 + i ≤ rm + 3 ∧ rm + 1 ≤ rm + 8 + i ∨ rm + 8 ≤ rm + 8 + i; omega
    rw [stI_n (by omega), stI_n (by omega), stI_n (by omega), stI_n (by omega), stI_n (by omega)]
  · rw [stI_n (by omega), stI_n (by omega), stI_n (by omega), stI_n (by omega), stI_n (by omega)]
theorem s_goin (h : CRm σ rm R) (hrm : 4 ≤ rm) (hc : R.1 2 < 10) {it : Nat → Nat} : ∃ σ', s_Room_addGoing rm (nI (it 0)) (nI (it 1)) (nI (it 2)) σ = some σ' ∧ CRm σ' rm (addR R 2 it) ∧ (∀ b, b < rm ∨ rm + 10 < b → σ'.1 b = σ.1 b) ∧ σ'.2 = σ.2 := by
  have v := (h.1 2 (by omega)).1
  have e : s_Room_addGoing rm (nI (it 0)) (nI (it 1)) (nI (it 2)) σ = some (stI (stI (stI (stI σ (rm + 8) (R.1 2) (nI (it 0))) (rm + 9) (R.1 2) (nI (it 1))) (rm + 10) (R.1 2) (nI (it 2))) rm 2 (nI (R.1 2 + 1))) := by
    unfold s_Room_addGoing
    simp only [xl]
    simp only [stI_n (show rm ≠ rm + 8 by omega), stI_n (show rm ≠ rm + 9 by omega), stI_n (show rm ≠ rm + 10 by omega), v, if_neg (nI_pos (show R.1 2 < 2 ^ 31 by omega)), if_pos (show nI (R.1 2) < 10 from nI_lt (b := 10) hc (by omega)), if_pos (ib_nI hc (show 10 < 2 ^ 31 by omega)), nI_clamp (show R.1 2 < 2 ^ 31 by omega), nI_1]
  refine ⟨_, e, h.add (by omega) hc (fun i hi => ?_) (fun j => ?_) (fun j i hj hz hi => ?_), fun b hb => ?_, rfl⟩
  · have : i < 3 := hi
    show (stI _ rm 2 _).1 (rm + 8 + i) = upd (σ.1 (rm + 8 + i)) _ _
    rcases (show i = 0 ∨ i = 1 ∨ i = 2 by omega) with rfl | rfl | rfl
    · rw [stI_n (by omega), stI_n (by omega), stI_n (by omega), upd_stI]
    · rw [stI_n (by omega), stI_n (by omega), show rm + 8 + 1 = rm + 9 by omega, upd_stI, stI_n (by omega)]
    · rw [stI_n (by omega), show rm + 8 + 2 = rm + 10 by omega, upd_stI, stI_n (by omega), stI_n (by omega)]
  · rw [stI_e, stI_n (by omega), stI_n (by omega), stI_n (by omega)]
  · have hb : rm + offR j + i ≤ rm + 7 ∧ rm + 1 ≤ rm + offR j + i := by
      rcases (show j = 0 ∨ j = 1 by omega) with rfl | rfl
      · have : i < 3 := hi
        show rm + 1 + i ≤ rm + 7 ∧ rm + 1 ≤ rm + 1 + i; omega
      · have : i < 4 := hi
        show rm + 4 + i ≤ rm + 7 ∧ rm + 1 ≤ rm + 4 + i; omega
    rw [stI_n (by omega), stI_n (by omega), stI_n (by omega), stI_n (by omega)]
  · rw [stI_n (by omega), stI_n (by omega), stI_n (by omega), stI_n (by omega)]
/-- a clause put by -/
theorem r_store (h : CRm σ rm R) (hrm : 4 ≤ rm) (hr27 : rm + 10 < 27) (hk : k < 4) (hc : R.1 k < capR k) {it : Nat → Nat} (hI : ∀ j, j < 4 → σ.1 27 j = nI (it j)) : ∃ σ', s_RoomReader_store rm (nI k) σ = some σ' ∧ CRm σ' rm (addR R k it) ∧ (∀ b, b < rm ∨ rm + 10 < b → σ'.1 b = σ.1 b) ∧ σ'.2 = σ.2 := by
  have so : ∀ x : Option LH, ∀ p1, (xb1 x fun s => s_RoomReader_store_135 rm p1 s) = x := fun x p1 => by cases x <;> rfl
  have i0 : σ.1 27 (Int32.toNatClampNeg 0) = nI (it 0) := hI 0 (by omega)
  have i1 : σ.1 27 (Int32.toNatClampNeg 1) = nI (it 1) := hI 1 (by omega)
  have i2 : σ.1 27 (Int32.toNatClampNeg 2) = nI (it 2) := hI 2 (by omega)
  have i3 : σ.1 27 (Int32.toNatClampNeg 3) = nI (it 3) := hI 3 (by omega)
  unfold s_RoomReader_store
  rw [if_pos (show ib 0 4 by decide), if_pos (show ib 1 4 by decide), if_pos (show ib 2 4 by decide), i0, i1, i2, so]
  rcases (show k = 0 ∨ k = 1 ∨ k = 2 ∨ k = 3 by omega) with rfl | rfl | rfl | rfl
  · rw [if_pos (show (nI 0).toInt = 0 by decide)]
    exact s_seat h hrm hc
  · rw [if_neg (show ¬ (nI 1).toInt = 0 by decide), if_pos (show (nI 1).toInt = 1 by decide), if_pos (show ib 3 4 by decide), i3, so]
    exact s_sitr h hrm hc
  · rw [if_neg (show ¬ (nI 2).toInt = 0 by decide), if_neg (show ¬ (nI 2).toInt = 1 by decide), if_pos (show (nI 2).toInt = 2 by decide), so]
    exact s_goin h hrm hc
  · rw [if_neg (show ¬ (nI 3).toInt = 0 by decide), if_neg (show ¬ (nI 3).toInt = 1 by decide), if_neg (show ¬ (nI 3).toInt = 2 by decide)]
    have v := (h.1 3 (by omega)).1
    have c0 : R.1 3 = 0 := by have : R.1 3 < 1 := hc; omega
    simp only [xl]
    rw [stI_n (by omega), i0, i1, so, v, nI_1]
    unfold s_Room_setEvening
    simp only [xl]
    obtain ⟨c1, c2, c3, c4⟩ := h
    refine ⟨_, rfl, ⟨fun j hj => ?_, fun j hj r hr i hi => ?_, ?_, ?_⟩, fun b hb => ?_, rfl⟩
    · unfold addR
      rw [stI_e, if_neg (by omega), stI_e, if_neg (by omega), stI_e]
      simp only
      by_cases z : j = 3
      · rw [if_pos z, if_pos z]
        rw [z]
        exact ⟨rfl, hc⟩
      · rw [if_neg z, if_neg z]
        exact c1 j hj
    · unfold addR at hr ⊢
      simp only at hr ⊢
      rw [if_neg (by omega)] at hr
      have ho : 1 ≤ offR j := by
        rcases (show j = 0 ∨ j = 1 ∨ j = 2 by omega) with rfl | rfl | rfl <;> decide
      rw [if_neg (fun x => by omega), stI_n (by omega), stI_n (by omega), stI_n (by omega)]
      exact c2 j hj r hr i hi
    · unfold addR
      simp only
      rw [if_pos ⟨trivial, c0.symm⟩, stI_e, if_neg (by omega), stI_e, if_pos rfl]
    · unfold addR
      simp only
      rw [if_pos ⟨trivial, c0.symm⟩, stI_e, if_pos rfl]
    · rw [stI_n (by omega), stI_n (by omega), stI_n (by omega)]
end
