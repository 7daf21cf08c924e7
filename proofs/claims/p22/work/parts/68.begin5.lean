theorem s_cuStart (S : St) (M : Nat) (hw : GW S) (hc0 : cN S = 0) (hn : ∀ t, t ∉ rcL S) : ∃ T, m_St_startAnew_Cou S (nI M) = some T ∧ Fr (fun a _ => 41 < a ∧ a < 58) S T ∧ CuI T M ∧ PS T 42 1 0 0 := by
  have clr : ∀ (n i : Nat) (S : St), i ≤ 80 → 80 - i < n → ∃ T, m_Cou_forgetThings_L2 n S (nI i) = some T ∧ Fr (fun a _ => a = 47) S T := by
    intro n
    induction n with
    | zero => intro i S h1 h2; omega
    | succ n ih =>
      intro i S h1 h2
      rw [m_Cou_forgetThings_L2]
      by_cases hi : i = 80
      · subst hi
        exact ⟨S, if_pos (by decide), Fr.rfl'⟩
      · rw [if_neg (by rw [show (80 : Int32) = nI 80 from rfl, n_le (by omega) (by omega)]; omega), oi_t (n_in (by omega) (by omega)), nI_1, n_cl (by omega)]
        obtain ⟨T, e, hF⟩ := ih (i + 1) (u2 S 47 i 0) (by omega) (by omega)
        exact ⟨T, e, ((Fr.u2 S 47 i 0).mono (fun a j h => h.1)).tr hF⟩
  have F0 : Fr (fun a _ => a = 42) S (u2 (u2 (u2 (u2 (u2 (u2 S 42 2 (nI M)) 42 3 0) 42 4 0) 42 5 0) 42 6 0) 42 7 0) :=
    (((((((Fr.u2 _ _ _ _).mono (fun a j h => by omega)).tr ((Fr.u2 _ _ _ _).mono (fun a j h => by omega))).tr ((Fr.u2 _ _ _ _).mono (fun a j h => by omega))).tr ((Fr.u2 _ _ _ _).mono (fun a j h => by omega))).tr ((Fr.u2 _ _ _ _).mono (fun a j h => by omega))).tr ((Fr.u2 _ _ _ _).mono (fun a j h => by omega)))
  obtain ⟨T1, e1, F1, hno⟩ := s_letAll 42 1 (u2 (u2 (u2 (u2 (u2 (u2 S 42 2 (nI M)) 42 3 0) 42 4 0) 42 5 0) 42 6 0) 42 7 0)
  obtain ⟨T2, e2, F2⟩ := clr 200 0 T1 (by omega) (by omega)
  unfold m_St_startAnew_Cou m_Cou_forgetThings m_Cou_resetCounters
  rw [o1_e e1, o1_e (show (o1 (m_Cou_forgetThings_L2 200 T1 0) fun S1 => some S1) = some T2 by rw [o1_e (show m_Cou_forgetThings_L2 200 T1 0 = some T2 from e2)])]
  have F : Fr (fun a _ => 41 < a ∧ a < 58) S (u2 T2 42 10 0) := (((F0.mono (fun a j h => by omega)).tr (F1.mono (fun a j h => by omega))).tr (F2.mono (fun a j h => by omega))).tr ((Fr.u2 _ _ _ _).mono (fun a j h => by omega))
  have g : GEq S (u2 T2 42 10 0) := GEq.of F (fun a j q => by omega)
  have z : ∀ j, j ≠ 10 → (u2 T2 42 10 0) 42 j = (u2 (u2 (u2 (u2 (u2 (u2 S 42 2 (nI M)) 42 3 0) 42 4 0) 42 5 0) 42 6 0) 42 7 0) 42 j := fun j h1 => by rw [u2_n (by omega), F2 42 j (by omega), F1 42 j (by omega)]
  have hb : ∀ t, t < 80 → hB (u2 T2 42 10 0) 42 t = false := fun t ht => by
    rw [show hB (u2 T2 42 10 0) 42 t = hB T1 42 t from hB_eq (fun j => by rw [u2_n (by omega), F2 _ _ (by omega)]) t]; exact hno t ht
  have hf : ∀ t, t < 80 → hB (u2 T2 42 10 0) 42 t = true → False := fun t h1 h2 => by rw [hb t h1] at h2; cases h2
  have hc : cN (u2 T2 42 10 0) = 0 := by rw [g.c]; exact hc0
  refine ⟨_, rfl, F, ⟨⟨by rw [z 2 (by omega)]; simp [u2, uR, upd], fun t ht hh => (hf t ht hh).elim, ⟨fun t ht hh => (hf t (by omega) hh).elim, fun t u ht hu _ hh _ => (hf t (by omega) hh).elim⟩, fun _ => hb⟩, fun _ => ⟨fun t ht => by omega, fun t ht => by omega, fun u t hu => by omega, fun r t hr h1 => absurd (rc_root (S := S) hr (by rw [← g.r]; exact h1)) (hn t), fun t ht hh => (hf t ht hh).elim⟩⟩, ?_⟩
  exact ⟨by rw [z 3 (by omega)]; simp [u2, uR, upd]; rfl, Nat.le_refl _, 0, by rw [z 4 (by omega)]; simp [u2, uR, upd]; rfl, Nat.le_refl _, Nat.le_refl _⟩
theorem s_begin_call (S : St) {M : Nat} (h40 : 40 ≤ M) (hM : M ≤ 160) : ∃ T, m_Te_begin S (nI M) = some (S 0 5, T) ∧ INV T M ∧ cN T = 0 ∧ P4 T (fun _ => 0) (fun _ => 0) := by
  obtain ⟨S1, e1, F1, h1, h4⟩ := s_gStart (u2 S 0 5 (nI M))
  obtain ⟨hG1, c1, n1⟩ := gi_start h1 h4
  obtain ⟨S2, e2, F2, hC, p0⟩ := s_cpStart S1 M hG1.1 n1
  have g2 : GEq S1 S2 := GEq.of F2 (fun a j q => by omega)
  obtain ⟨S3, e3, F3, hN, p1⟩ := s_nuStart S2 M (by omega) (hG1.1.eq g2) (fun t => by rw [rcL_eq g2]; exact n1 t)
  have g3 := g2.trans (GEq.of F3 (fun a j q => by omega))
  obtain ⟨S4, e4, F4, hMa, p2⟩ := s_maStart S3 M (hG1.1.eq g3) (fun t => by rw [rcL_eq g3]; exact n1 t)
  have g34 : GEq S3 S4 := GEq.of F4 (fun a j q => by omega)
  have g4 := g3.trans g34
  obtain ⟨S5, e5, F5, hU, p3⟩ := s_cuStart S4 M (hG1.1.eq g4) (by rw [g4.c, c1]) (fun t => by rw [rcL_eq g4]; exact n1 t)
  have g45 : GEq S4 S5 := GEq.of F5 (fun a j q => by omega)
  have g5 := g4.trans g45
  have hG5 : GI S5 := hG1.eq g5 (fun j => by rw [F5 _ _ (by omega), F4 _ _ (by omega), F3 _ _ (by omega), F2 _ _ (by omega)])
  have g25 : GEq S2 S5 := ((GEq.of F3 (fun a j q => by omega)).trans g34).trans g45
  have g35 := g34.trans g45
  unfold m_Te_begin
  rw [if_neg (by rw [show (40 : Int32) = nI 40 from rfl, n_lt (by omega) (by omega)]; omega), if_pos (by rw [show (160 : Int32) = nI 160 from rfl, n_le (by omega) (by omega)]; exact hM), o1_e e1, o1_e e2, o1_e e3, o1_e e4, o1_e e5]
  refine ⟨S5, rfl, ⟨hG5, co_fr hC hG5.1 g25 (fun a j h1 h2 _ => by rw [F5 _ _ (by omega), F4 _ _ (by omega), F3 _ _ (by omega)]), nu_fr hN hG5.1 g35 (fun a j h1 h2 _ => by rw [F5 _ _ (by omega), F4 _ _ (by omega)]), ma_fr hMa g45 (fun a j h1 h2 _ => F5 _ _ (by omega)), hU⟩, by rw [g5.c, c1], ?_, ?_, ?_, p3⟩
  · exact p0.fr (by rw [F5 _ _ (by omega), F4 _ _ (by omega), F3 _ _ (by omega)]) (by rw [F5 _ _ (by omega), F4 _ _ (by omega), F3 _ _ (by omega)])
  · exact p1.fr (by rw [F5 _ _ (by omega), F4 _ _ (by omega)]) (by rw [F5 _ _ (by omega), F4 _ _ (by omega)])
  · exact p2.fr (F5 _ _ (by omega)) (F5 _ _ (by omega))
