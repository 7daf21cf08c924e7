theorem s_maStart (S : St) (M : Nat) (hw : GW S) (hn : ∀ t, t ∉ rcL S) : ∃ T, m_St_startAnew_Mar S (nI M) = some T ∧ Fr (fun a _ => 30 < a ∧ a < 42) S T ∧ MaI T M ∧ PS T 31 1 0 0 := by
  have h80 := hw.2.1
  have F0 : Fr (fun a _ => a = 31) S (u2 (u2 (u2 (u2 (u2 (u2 S 31 2 (nI M)) 31 3 0) 31 4 0) 31 5 0) 31 6 0) 31 7 0) :=
    (((((((Fr.u2 _ _ _ _).mono (fun a j h => by omega)).tr ((Fr.u2 _ _ _ _).mono (fun a j h => by omega))).tr ((Fr.u2 _ _ _ _).mono (fun a j h => by omega))).tr ((Fr.u2 _ _ _ _).mono (fun a j h => by omega))).tr ((Fr.u2 _ _ _ _).mono (fun a j h => by omega))).tr ((Fr.u2 _ _ _ _).mono (fun a j h => by omega)))
  obtain ⟨T1, e1, F1, hno⟩ := s_letAll 31 1 (u2 (u2 (u2 (u2 (u2 (u2 S 31 2 (nI M)) 31 3 0) 31 4 0) 31 5 0) 31 6 0) 31 7 0)
  obtain ⟨T2, e2, F2, R2⟩ := s_empty 36 (u2 T1 31 10 0)
  unfold m_St_startAnew_Mar m_Mar_forgetThings
  rw [o1_e e1, o1_e (show (o1 (m_Row_empty 36 (u2 T1 31 10 0)) fun S1 => some (u2 S1 31 14 0)) = some (u2 T2 31 14 0) by rw [o1_e e2])]
  have F : Fr (fun a _ => 30 < a ∧ a < 42) S (u2 T2 31 14 0) := ((((F0.mono (fun a j h => by omega)).tr (F1.mono (fun a j h => by omega))).tr ((Fr.u2 _ _ _ _).mono (fun a j h => by omega))).tr (F2.mono (fun a j h => by unfold rowP at h; omega))).tr ((Fr.u2 _ _ _ _).mono (fun a j h => by omega))
  have g : GEq S (u2 T2 31 14 0) := GEq.of F (fun a j q => by omega)
  have z : ∀ j, j ≠ 10 → j ≠ 14 → (u2 T2 31 14 0) 31 j = (u2 (u2 (u2 (u2 (u2 (u2 S 31 2 (nI M)) 31 3 0) 31 4 0) 31 5 0) 31 6 0) 31 7 0) 31 j := fun j h1 h2 => by rw [u2_n (by omega), F2 31 j (by unfold rowP; omega), u2_n (by omega), F1 31 j (by omega)]
  have z10 : (u2 T2 31 14 0) 31 10 = 0 := by rw [u2_n (by omega), F2 31 10 (by unfold rowP; omega), u2_e]
  have hb : ∀ t, t < 80 → hB (u2 T2 31 14 0) 31 t = false := fun t ht => by
    rw [show hB (u2 T2 31 14 0) 31 t = hB T1 31 t from hB_eq (fun j => by rw [u2_n (by omega), F2 _ _ (by unfold rowP; omega), u2_n (by omega)]) t]; exact hno t ht
  have hf : ∀ t, t < 80 → hB (u2 T2 31 14 0) 31 t = true → False := fun t h1 h2 => by rw [hb t h1] at h2; cases h2
  have hc : cN (u2 T2 31 14 0) ≤ 80 := by rw [g.c]; exact h80
  refine ⟨_, rfl, F, ⟨⟨by rw [z 2 (by omega) (by omega)]; simp [u2, uR, upd], fun t ht hh => (hf t ht hh).elim, ⟨fun t ht hh => (hf t (by omega) hh).elim, fun t u ht hu _ hh _ => (hf t (by omega) hh).elim⟩, fun _ => hb⟩, fun _ => ⟨fun t ht => by rw [rcL_eq g] at ht; exact absurd ht (hn t), fun _ t ht hh => (hf t (by omega) hh).elim, fun q => absurd z10 q⟩⟩, ?_⟩
  exact ⟨by rw [z 3 (by omega) (by omega)]; simp [u2, uR, upd]; rfl, Nat.le_refl _, 0, by rw [z 4 (by omega) (by omega)]; simp [u2, uR, upd]; rfl, Nat.le_refl _, Nat.le_refl _⟩
