/-! the start -/
theorem s0_rows : ∀ j, j < 6 → bx0.getD j p0 = (g_s0 (0 + 1 + 4 * j), g_s0 (0 + 2 + 4 * j), g_s0 (0 + 3 + 4 * j), g_s0 (0 + 4 + 4 * j)) := by decide
theorem inv_0 : Inv g_I g_A g_L := by
  obtain ⟨I', A', e1, e2, e3, e4⟩ := box_s (b := 1) (fun _ => 0) (fun _ _ => 0) (fun _ => 0)
  rw [g_b0_eq] at e1
  have q1 : g_b0.1 = I' := congrArg (fun z => z.1) (Option.some.inj e1)
  have q2 : g_b0.2.1 = A' := congrArg (fun z => z.2.1) (Option.some.inj e1)
  have hI : ∀ i, i ≠ 20 → i ≠ 12 → g_I i = 0 := fun i h1 h2 => by
    unfold g_I
    rw [un _ _ h2, q1, e3 i (by omega)]
  have hA : ∀ r, r ≠ 60 → g_A r = A' r := fun r hr => by
    unfold g_A
    rw [un _ _ hr, q2]
  have hA0 : ∀ r, 5 < r → r ≠ 60 → g_A r = fun _ => 0 := fun r h1 h2 => by rw [hA r h2, e4 r (by omega)]
  have h60 : g_A 60 = g_s0 := us _ _ _
  have h12 : g_I 12 = 1 := us _ _ _
  have l3 : g_L 953 = 1 := us _ _ _
  have l2 : g_L 952 = 0 := by unfold g_L; rw [un _ _ (by omega)]; rfl
  have h20 : g_I 20 = I' (16 * 1 + 4) := by unfold g_I; rw [un _ _ (by omega), q1]
  refine ⟨bx0, [], ⟨bx0_ok, ?_, ?_⟩, ?_, ?_, ?_, ?_, Or.inl (hI 7 (by omega) (by omega)), Or.inl (hI 8 (by omega) (by omega))⟩
  · rw [h20, hA 2 (by omega), hA 3 (by omega), hA 4 (by omega), hA 5 (by omega)]
    exact e2
  · rw [h60]
    exact ⟨by decide, s0_rows⟩
  · refine ⟨by decide, hI 946 (by omega) (by omega), hI 178 (by omega) (by omega), fun pl h => absurd h (by simp), fun i h => absurd h (by simp), 0, by omega, hI 177 (by omega) (by omega), fun i h => absurd h (by simp)⟩
  · exact ⟨by rw [hI 913 (by omega) (by omega), hI 950 (by omega) (by omega)], 0, by omega, hI 913 (by omega) (by omega), fun j h => by omega⟩
  · unfold vCn
    rw [hI 13 (by omega) (by omega), hI 14 (by omega) (by omega), hI 15 (by omega) (by omega), hA0 63 (by omega) (by omega)]
    exact ⟨rfl, rfl, rfl⟩
  · unfold vFr
    rw [hI 11 (by omega) (by omega), h12, l2, l3]
    exact ⟨by decide, by decide⟩
theorem g_steps : gSteps Inv := ⟨st_plane, st_family, st_off, st_drop, st_anew, st_draw, st_of, st_member, st_all, st_corner, st_meets, st_part, st_edge, st_reach, st_stays, st_symmetry, st_hides, st_spare, st_type, st_clear, st_reads, st_back, st_told, st_digest⟩
