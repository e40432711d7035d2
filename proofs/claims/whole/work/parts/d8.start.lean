/-! the start: what both objects hold when they are made is the invariant -/
theorem sz_v {a j : Nat} {v : Int32} (h : (if (xkd a).1 = 1 then szf (xkd a).2.1 j else 0) = v) : sz0.1 a j = v := h
theorem sz_z {a j : Nat} {t N y : Nat} (h : xkd a = (t, N, y)) (ht : t ≠ 1) : sz0.1 a j = 0 := by rw [sz_a h ht]
theorem nv_start : NV Vb 0 sz0 sz0 := by
  have no : ∀ {x : Nat}, ¬ x < 0 := fun h => absurd h (Nat.not_lt_zero _)
  have h583 : sz0.1 583 = fun _ => 0 := sz_a (t := 2) (N := 290) (y := 0) (by decide +kernel) (by decide)
  have h574 : ∀ j, sz0.1 35 j = 0 := fun j => sz_z (t := 2) (N := 100) (y := 0) (by decide +kernel) (by decide)
  have h36 : ∀ j, sz0.1 36 j = 0 := fun j => sz_z (t := 2) (N := 100) (y := 0) (by decide +kernel) (by decide)
  have hHR : HR sz0 0 0 0 0 0 (gH sz0 39) (sz0.1 583) := by
    refine ⟨⟨fun p h => absurd h no, fun p h => absurd h no, fun p h => absurd h no, fun p h => absurd h no, fun p h => absurd h no, fun p h => absurd h no, fun p h => absurd h no, ?_⟩, ⟨⟨fun p h => absurd h no, ?_, 0, by omega, ?_⟩, fun p h => absurd h no, fun p h => absurd h no, fun p h => absurd h no, fun p h => absurd h no⟩, Or.inl ?_, ?_⟩
    · show sz0.1 39 7 = sz0.1 583 48
      decide +kernel
    · show sz0.1 583 48 = nI 0
      decide +kernel
    · show sz0.1 583 49 = nI 0
      decide +kernel
    · show sz0.1 39 10 = -1
      decide +kernel
    · show sz0.1 39 8 = nI 0
      decide +kernel
  have hLg : Lg (gH sz0 39) (sz0.1 583) 0 := by
    refine ⟨?_, ?_, fun i c h => absurd h (by simp)⟩
    · show sz0.1 39 8 = nI 0
      decide +kernel
    · show sz0.1 583 49 = nI 0
      decide +kernel
  refine ⟨0, 0, 0, 0, 0, 0, 0, 0, 0, 0, 0, fun _ => 0, fun _ => 0, fun _ => 0, fun _ => 0, fun _ => 0, fun _ => 0, none, fun _ _ => 0, fun _ => 0, fun _ => [], fun _ _ _ => 0, ⟨⟨⟨?_, ?_, ?_, ?_, ?_, ?_, ?_, ?_, ?_, by omega⟩, ⟨fun m hm => ⟨0, by omega, h574 m⟩, fun m h1 h2 => by omega⟩, hHR, by decide +kernel, by decide +kernel, by omega, by omega, by omega, by simp, fun _ => rfl, ⟨by decide +kernel, by decide +kernel, by decide +kernel, by decide +kernel⟩, ?_⟩, hLg, ?_, ?_⟩, by omega⟩
  · exact ⟨by decide +kernel, by omega, by decide +kernel, by omega, by decide +kernel, by omega, fun g h => absurd h no, by decide +kernel, fun p h => by (cases h), by decide +kernel⟩
  · exact ⟨by decide +kernel, by omega, by decide +kernel, by omega, by decide +kernel, by omega, fun g h => absurd h no, by decide +kernel, by omega, fun g h => absurd h no, ⟨fun p h => absurd h no, fun p h => absurd h no⟩⟩
  · exact ⟨fun s h => absurd h no, fun s h => absurd h no, fun s h => absurd h no, fun s h => absurd h no⟩
  · exact fun g h => absurd h no
  · exact Or.inl ⟨rfl, rfl⟩
  · exact fun g h => absurd h no
  · exact fun g h => absurd h no
  · exact fun m hm => ⟨0, by omega, h574 m, fun p s h => absurd h no⟩
  · exact fun m hm p s h => absurd h no
  · exact ⟨fun i hi => Or.inl rfl, fun s h => absurd h no, fun s h => absurd h no, by decide +kernel, by decide +kernel, fun s h => absurd h no⟩
  · exact ⟨by decide +kernel, by decide +kernel, by decide +kernel, by omega, by omega, fun i h => absurd h no⟩
  · refine ⟨⟨by omega, by omega, by omega, by omega, fun s h => absurd h no, fun s h => absurd h no, fun h e => by (cases e), fun s h => absurd h no⟩, by decide +kernel, ⟨fun _ => rfl, fun t h => absurd h no⟩, fun s h => absurd h no, ⟨0, by decide +kernel, by decide +kernel, by omega, fun i h => absurd h no⟩, ⟨by decide +kernel, by decide +kernel, fun t h => absurd h no⟩, by decide +kernel, ⟨0, by omega, by decide +kernel, by decide +kernel⟩, ⟨0, by decide +kernel, by decide +kernel, by omega, fun i h => absurd h no⟩, Or.inl ⟨by decide +kernel, by decide +kernel⟩, Vb_start (by decide +kernel)⟩
