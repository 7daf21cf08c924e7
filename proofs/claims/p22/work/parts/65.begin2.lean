theorem s_cpStart (S : St) (M : Nat) (hw : GW S) (hn : ∀ t, t ∉ rcL S) : ∃ T, m_St_startAnew_Cop S (nI M) = some T ∧ Fr (fun a _ => 11 < a ∧ a < 18) S T ∧ CoI T M ∧ PS T 12 0 0 0 := by
  obtain ⟨T1, e1, F1, hno⟩ := s_letAll 12 0 (u2 (u2 (u2 (u2 (u2 (u2 S 12 1 (nI M)) 12 2 0) 12 3 0) 12 4 0) 12 5 0) 12 6 0)
  unfold m_St_startAnew_Cop m_Cop_forgetThings
  rw [o1_e e1]
  have F0 : Fr (fun a _ => 11 < a ∧ a < 18) S (u2 (u2 (u2 (u2 (u2 (u2 S 12 1 (nI M)) 12 2 0) 12 3 0) 12 4 0) 12 5 0) 12 6 0) :=
    (((((((Fr.u2 _ _ _ _).mono (fun a j h => by omega)).tr ((Fr.u2 _ _ _ _).mono (fun a j h => by omega))).tr ((Fr.u2 _ _ _ _).mono (fun a j h => by omega))).tr ((Fr.u2 _ _ _ _).mono (fun a j h => by omega))).tr ((Fr.u2 _ _ _ _).mono (fun a j h => by omega))).tr ((Fr.u2 _ _ _ _).mono (fun a j h => by omega)))
  have F : Fr (fun a _ => 11 < a ∧ a < 18) S (u2 (u2 T1 12 10 0) 12 11 0) := ((F0.tr (F1.mono (fun a j h => by omega))).tr ((Fr.u2 _ _ _ _).mono (fun a j h => by omega))).tr ((Fr.u2 _ _ _ _).mono (fun a j h => by omega))
  have g : GEq S (u2 (u2 T1 12 10 0) 12 11 0) := GEq.of F (fun a j q => by omega)
  have z : ∀ j, j ≠ 10 → j ≠ 11 → (u2 (u2 T1 12 10 0) 12 11 0) 12 j = (u2 (u2 (u2 (u2 (u2 (u2 S 12 1 (nI M)) 12 2 0) 12 3 0) 12 4 0) 12 5 0) 12 6 0) 12 j := fun j h1 h2 => by rw [u2_n (by omega), u2_n (by omega), F1 12 j (by omega)]
  have hb : ∀ t, t < 80 → hB (u2 (u2 T1 12 10 0) 12 11 0) 12 t = false := fun t ht => by
    rw [show hB (u2 (u2 T1 12 10 0) 12 11 0) 12 t = hB T1 12 t from hB_eq (fun j => by rw [u2_n (by omega), u2_n (by omega)]) t]; exact hno t ht
  refine ⟨_, rfl, F, ⟨by rw [z 1 (by omega) (by omega)]; simp [u2, uR, upd], fun q => ?_, fun _ => ⟨[], ⟨List.nodup_nil, fun t h => (by cases h), fun t ht => by rw [hb t ht]; rfl, by rw [u2_e]; rfl, fun t h => (by cases h), fun t h => (by cases h)⟩, Nat.zero_le _, fun t ht => by rw [rcL_eq g] at ht; exact absurd ht (hn t)⟩⟩, ?_⟩
  · exact fun t ht => hb t ht
  · exact ⟨by rw [z 2 (by omega) (by omega)]; simp [u2, uR, upd]; rfl, Nat.le_refl _, 0, by rw [z 3 (by omega) (by omega)]; simp [u2, uR, upd]; rfl, Nat.le_refl _, Nat.le_refl _⟩
