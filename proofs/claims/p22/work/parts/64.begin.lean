/-! the beginning -/
theorem s_fill6_L (q : Nat) (v : Int32) : ∀ (n i : Nat) (S : St), i ≤ 6 → 6 - i < n → ∃ T, m_Arr_fill_6_L5 q n S v (nI i) 6 = some T ∧ Fr (fun a _ => a = q) S T ∧ (∀ j, j < 6 → i ≤ j → T q j = v) ∧ ∀ j, j < i → T q j = S q j := by
  intro n
  induction n with
  | zero => intro i S h1 h2; omega
  | succ n ih =>
    intro i S h1 h2
    rw [m_Arr_fill_6_L5]
    by_cases hi : i = 6
    · subst hi
      exact ⟨S, if_pos (by decide), Fr.rfl', fun j h3 h4 => by omega, fun j _ => rfl⟩
    · rw [if_neg (by rw [show (6 : Int32) = nI 6 from rfl, n_le (by omega) (by omega)]; omega), oi_t (n_in (by omega) (by omega)), nI_1, n_cl (by omega)]
      obtain ⟨T, e, hF, h3, h4⟩ := ih (i + 1) (u2 S q i v) (by omega) (by omega)
      refine ⟨T, e, ((Fr.u2 S q i v).mono (fun a j h => h.1)).tr hF, fun j h5 h6 => ?_, fun j h5 => ?_⟩
      · by_cases hj : j = i
        · subst hj; rw [h4 j (by omega), u2_e]
        · exact h3 j h5 (by omega)
      · rw [h4 j (by omega), u2_n (by omega)]
theorem s_gStart (S : St) : ∃ T, m_Gr_startAnew S = some T ∧ Fr (fun a j => (a = 1 ∧ j = 6) ∨ a = 4 ∨ rowP 6 a j) S T ∧ T 1 6 = 0 ∧ ∀ j, j < 6 → T 4 j = -1 := by
  obtain ⟨T1, e1, F1, h1, -⟩ := s_fill6_L 4 (-1) 200 0 (u2 S 1 6 0) (by omega) (by omega)
  obtain ⟨T2, e2, F2, -⟩ := s_empty 6 T1
  unfold m_Gr_startAnew m_Arr_fill_6
  rw [o1_e (show (o1 (m_Arr_fill_6_L5 4 200 (u2 S 1 6 0) (-1) 0 6) fun S1 => some S1) = some T1 by rw [o1_e (show m_Arr_fill_6_L5 4 200 (u2 S 1 6 0) (-1) 0 6 = some T1 from e1)]), o1_e e2]
  refine ⟨T2, rfl, (((Fr.u2 _ _ _ _).mono (fun a j h => by omega)).tr (F1.mono (fun a j h => by omega))).tr (F2.mono (fun a j h => Or.inr (Or.inr h))), ?_, fun j hj => ?_⟩
  · rw [F2 1 6 (by unfold rowP; omega), F1 1 6 (by omega), u2_e]
  · rw [F2 4 j (by unfold rowP; omega)]; exact h1 j hj (Nat.zero_le _)
theorem gi_start {T : St} (h1 : T 1 6 = 0) (h4 : ∀ j, j < 6 → T 4 j = -1) : GI T ∧ cN T = 0 ∧ ∀ t, t ∉ rcL T := by
  have c0 : cN T = 0 := by unfold cN; rw [h1]; rfl
  have r0 : ∀ r, r < 6 → rtO T r = none := fun r hr => by unfold rtO; rw [h4 r hr]; exact oN_m1
  have hw : GW T := ⟨by rw [c0, h1]; rfl, by omega, fun t ht => by omega, fun r hr => ⟨by rw [r0 r hr, h4 r hr]; rfl, fun u hu => by rw [r0 r hr] at hu; cases hu⟩⟩
  have hn : ∀ t, t ∉ rcL T := fun t ht => by have := rc_lt hw t ht; omega
  exact ⟨⟨hw, fun t ht => by omega, fun t ht => by omega⟩, c0, hn⟩
