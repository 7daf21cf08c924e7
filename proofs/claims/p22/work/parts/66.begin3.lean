theorem s_nuStart (S : St) (M : Nat) (hM : M < 200) (hw : GW S) (hn : ∀ t, t ∉ rcL S) : ∃ T, m_St_startAnew_Nur S (nI M) = some T ∧ Fr (fun a _ => 17 < a ∧ a < 31) S T ∧ NuI T M ∧ PS T 18 0 0 0 := by
  have F0 : Fr (fun a _ => a = 18) S (u2 (u2 (u2 (u2 (u2 (u2 S 18 1 (nI M)) 18 2 0) 18 3 0) 18 4 0) 18 5 0) 18 6 0) :=
    (((((((Fr.u2 _ _ _ _).mono (fun a j h => by omega)).tr ((Fr.u2 _ _ _ _).mono (fun a j h => by omega))).tr ((Fr.u2 _ _ _ _).mono (fun a j h => by omega))).tr ((Fr.u2 _ _ _ _).mono (fun a j h => by omega))).tr ((Fr.u2 _ _ _ _).mono (fun a j h => by omega))).tr ((Fr.u2 _ _ _ _).mono (fun a j h => by omega)))
  obtain ⟨S2, T, e1, e2, F1, Q⟩ := s_nuForget (S := u2 (u2 (u2 (u2 (u2 (u2 S 18 1 (nI M)) 18 2 0) 18 3 0) 18 4 0) 18 5 0) 18 6 0) (M := M) (by simp [u2, uR, upd]) hM
  unfold m_St_startAnew_Nur m_Nur_resetCounters
  rw [o1_e e1, o1_e e2]
  have F2 : Fr (fun a j => a = 18 ∧ (j = 9 ∨ j = 10)) T (u2 (u2 T 18 9 0) 18 10 0) := ((Fr.u2 _ _ _ _).mono (fun a j h => by omega)).tr ((Fr.u2 _ _ _ _).mono (fun a j h => by omega))
  have F : Fr (fun a _ => 17 < a ∧ a < 31) S (u2 (u2 T 18 9 0) 18 10 0) := ((F0.mono (fun a j h => by omega)).tr (F1.mono (fun a j h => by unfold rowP at h; omega))).tr (F2.mono (fun a j h => by omega))
  have g : GEq S (u2 (u2 T 18 9 0) 18 10 0) := GEq.of F (fun a j q => by omega)
  have g2 : GEq T (u2 (u2 T 18 9 0) 18 10 0) := GEq.of F2 (fun a j q => by omega)
  have z : ∀ j, j ≠ 9 → j ≠ 10 → j ≠ 15 → j ≠ 16 → (u2 (u2 T 18 9 0) 18 10 0) 18 j = (u2 (u2 (u2 (u2 (u2 (u2 S 18 1 (nI M)) 18 2 0) 18 3 0) 18 4 0) 18 5 0) 18 6 0) 18 j := fun j h1 h2 h3 h4 => by rw [F2 18 j (by omega), F1 18 j (by unfold rowP; omega)]
  have z5 : (u2 (u2 T 18 9 0) 18 10 0) 18 5 = 0 := by rw [z 5 (by omega) (by omega) (by omega) (by omega)]; simp [u2, uR, upd]
  refine ⟨_, rfl, F, ⟨by rw [z 1 (by omega) (by omega) (by omega) (by omega)]; simp [u2, uR, upd], fun q => absurd z5 q, fun _ => ⟨[], [], Q.fr g2 F2 (fun a j q x => by unfold rowP at x; omega), Nat.zero_le _, by rw [lsum_n]; omega, fun t ht => by rw [rcL_eq g] at ht; exact absurd ht (hn t)⟩⟩, ?_⟩
  exact ⟨by rw [z 2 (by omega) (by omega) (by omega) (by omega)]; simp [u2, uR, upd]; rfl, Nat.le_refl _, 0, by rw [z 3 (by omega) (by omega) (by omega) (by omega)]; simp [u2, uR, upd]; rfl, Nat.le_refl _, Nat.le_refl _⟩
