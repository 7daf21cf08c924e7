/-! what a collecting of the second store would do, and does -/
theorem w_nu {S : St} {M A W : Nat} (hI : NuI S M) (hM : M < 160) (hP : PS S 18 0 A W) (hW : W ≤ 1000000000) : ∃ go wk, ∀ T, WE 18 31 S T →
    m_Te_wouldGo T (nI 1) = some (nI go, T) ∧ m_Te_wouldWork T (nI 1) = some (nI wk, T) ∧ ∃ T', m_Te_collect T (nI 1) = some (nI go, T') ∧ Fr (fun a _ => 17 < a ∧ a < 31) T T' ∧ COL T T' 18 0 go W wk ∧ sm (hadU T' 18) (cN T') = 0 := by
  refine ⟨if S 18 5 = 0 ∧ sm (hadR S 18) (cN S) ≤ M - M / 4 then sm (hadU S 18) (cN S) else 0, if S 18 5 = 0 ∧ sm (hadR S 18) (cN S) ≤ M - M / 4 then sm (hadR S 18) (cN S) else 0, fun T hE => ?_⟩
  obtain ⟨hT, g, hc⟩ := hE
  have hc' : ∀ a j, 17 < a → a < 31 → T a j = S a j := fun a j h1 h2 => hc a j h1 h2 (nscr (by omega))
  have hb : ∀ t, hB T 18 t = hB S 18 t := hB_eq (fun j => hc' _ _ (by omega) (by omega))
  have hIT : NuI T M := nu_fr hI hT.1 g (fun a j h1 h2 _ => hc' a j h1 h2)
  have h5 : T 18 5 = S 18 5 := hc' _ _ (by omega) (by omega)
  rw [← hadU_eq g hb, ← hadR_eq g hb, ← h5]
  have hPT : PS T 18 0 A W := hP.fr (hc' _ _ (by omega) (by omega)) (hc' _ _ (by omega) (by omega))
  obtain ⟨S1, e1, F1, q1⟩ := s_open hPT
  have g1 : GEq T S1 := GEq.of F1 (fun a j q => by omega)
  have hG1 : GI S1 := hT.eq g1 (fun j => F1 _ _ (by omega))
  have hI1 : NuI S1 M := nu_fr hIT hG1.1 g1 (fun a j h1 h2 h3 => F1 _ _ (by omega))
  have hb1 : ∀ t, hB S1 18 t = hB T 18 t := hB_eq (fun j => F1 _ _ (by omega))
  have h51 : S1 18 5 = T 18 5 := F1 _ _ (by omega)
  by_cases z : T 18 5 = 0
  · have hRH : RH T 18 := (hIT.po hT.1).2.2 z
    have hgf := s_greatFits hT hRH hIT.1 (show M < 200 by omega)
    have hR : sm (hadR S1 18) (cN S1) ≤ 320 := by
      rw [r_sum hG1.1 ((hI1.po hG1.1).2.2 (h51.trans z))]
      exact lw_le hG1.1 (rc_nodup S1) (rc_lt hG1.1)
    have key := s_nuCollect hG1 hI1 (show M < 200 by omega) (h51.trans z) q1.1
    rw [hadR_eq g1 hb1, hadU_eq g1 hb1] at key
    by_cases y : sm (hadR T 18) (cN T) ≤ M - M / 4
    · rw [if_pos ⟨z, y⟩, if_pos ⟨z, y⟩]
      rw [decide_eq_true y] at hgf
      refine ⟨?_, ?_, ?_⟩
      · unfold m_Te_wouldGo m_Nur_countToGo
        rw [o1_e (s_storeOf T (s := 1) (by omega)), if_neg (by decide), if_pos (by decide), if_pos z, o1_e hgf, if_neg (by decide), s_countUn 18 0 hT]; rfl
      · unfold m_Te_wouldWork m_Nur_workToDo
        rw [o1_e (s_storeOf T (s := 1) (by omega)), if_neg (by decide), if_pos (by decide), if_pos z, o1_e hgf, if_neg (by decide), s_wordsR 18 0 hT]; rfl
      · obtain ⟨-, T2, R, e2, F2, i2, k1, k2, k3, k4, k5⟩ := key.resolve_right (fun q => q.1 y)
        have g2 := geq_Nu F2
        rw [hadR_eq g1 hb1] at hR
        obtain ⟨T3, e3, F3, q3⟩ := s_close (q1.up (T := T2) k2 (by omega) (F2 _ _ (by unfold fNu; omega)) (F2 _ _ (by unfold fNu; omega))) (by omega)
        have g3 : GEq T2 T3 := GEq.of F3 (fun a j q => by omega)
        have hu0 : sm (hadU T3 18) (cN T3) = 0 := by
          rw [hadU_eq g3 (hB_eq (fun j => F3 _ _ (by omega)))]
          refine u_zero (fun t ht hbt => ?_)
          have h80 := hG1.1.2.1
          rw [g2.c] at ht
          have := (k3.2.2.2.2.2.1 t (by omega)).mp hbt
          rw [rcL_eq g2, ← k4]
          exact this.resolve_left List.not_mem_nil
        refine ⟨T3, ?_, ?_, ⟨?_, Nat.le_refl _, fun _ => hu0, fun _ => by rw [hu0, Nat.zero_add]⟩, hu0⟩
        · unfold m_Te_collect m_St_cleanUp_Nur
          rw [o1_e (s_storeOf T (s := 1) (by omega)), if_neg (by decide), if_pos (by decide), o1_e e1, if_pos (h51.trans z), ob_e (ob_e e2), o1_e e3]
        · exact ((F1.mono (fun a j q => by omega)).tr (F2.mono (fun a j q => by unfold fNu at q; omega))).tr (F3.mono (fun a j q => by omega))
        · rw [q3.1]
    · rw [if_neg (fun q => y q.2), if_neg (fun q => y q.2)]
      rw [decide_eq_false y] at hgf
      refine ⟨?_, ?_, ?_⟩
      · unfold m_Te_wouldGo m_Nur_countToGo
        rw [o1_e (s_storeOf T (s := 1) (by omega)), if_neg (by decide), if_pos (by decide), if_pos z, o1_e hgf, if_pos (by decide)]; rfl
      · unfold m_Te_wouldWork m_Nur_workToDo
        rw [o1_e (s_storeOf T (s := 1) (by omega)), if_neg (by decide), if_pos (by decide), if_pos z, o1_e hgf, if_pos (by decide)]; rfl
      · obtain ⟨-, T2, e2, F2, i2, k1, k2⟩ := key.resolve_left (fun q => y q.1)
        have g2 := geq_Nu F2
        obtain ⟨T3, e3, F3, q3⟩ := s_close (q1.up (T := T2) (k2.trans q1.1) (Nat.le_refl _) (F2 _ _ (by unfold fNu; omega)) (F2 _ _ (by unfold fNu; omega))) (by omega)
        have g3 : GEq T2 T3 := GEq.of F3 (fun a j q => by omega)
        have hT2 : GI T2 := hG1.eq g2 (fun j => F2 _ _ (by unfold fNu; omega))
        have hu0 : sm (hadU T3 18) (cN T3) = 0 := by
          rw [hadU_eq g3 (hB_eq (fun j => F3 _ _ (by omega)))]
          exact u_none hT2.1 (i2.2.1 k1)
        refine ⟨T3, ?_, ?_, ⟨?_, Nat.zero_le _, fun _ => hu0, fun q => absurd ((F3 18 5 (by omega)).symm.trans q) k1⟩, hu0⟩
        · unfold m_Te_collect m_St_cleanUp_Nur
          rw [o1_e (s_storeOf T (s := 1) (by omega)), if_neg (by decide), if_pos (by decide), o1_e e1, if_pos (h51.trans z), ob_e (ob_e e2), o1_e e3]; rfl
        · exact ((F1.mono (fun a j q => by omega)).tr (F2.mono (fun a j q => by unfold fNu at q; omega))).tr (F3.mono (fun a j q => by omega))
        · rw [q3.1]; rfl
  · rw [if_neg (fun q => z q.1), if_neg (fun q => z q.1)]
    refine ⟨?_, ?_, ?_⟩
    · unfold m_Te_wouldGo
      rw [o1_e (s_storeOf T (s := 1) (by omega)), if_neg (by decide), if_pos (by decide), if_neg z]; rfl
    · unfold m_Te_wouldWork
      rw [o1_e (s_storeOf T (s := 1) (by omega)), if_neg (by decide), if_pos (by decide), if_neg z]; rfl
    · obtain ⟨T3, e3, F3, q3⟩ := s_close q1 (by omega)
      have g3 : GEq S1 T3 := GEq.of F3 (fun a j q => by omega)
      have hu : sm (hadU T 18) (cN T) = 0 := u_none hT.1 (hIT.2.1 z)
      have hu0 : sm (hadU T3 18) (cN T3) = 0 := by
        rw [hadU_eq g3 (hB_eq (fun j => F3 _ _ (by omega))), hadU_eq g1 hb1]; exact hu
      refine ⟨T3, ?_, ?_, ⟨?_, Nat.zero_le _, fun _ => hu0, fun _ => by rw [hu0, hu]⟩, hu0⟩
      · unfold m_Te_collect m_St_cleanUp_Nur
        rw [o1_e (s_storeOf T (s := 1) (by omega)), if_neg (by decide), if_pos (by decide), o1_e e1, if_neg (fun y => z (h51.symm.trans y)), ob_e rfl, o1_e e3]; rfl
      · exact (F1.mono (fun a j q => by omega)).tr (F3.mono (fun a j q => by omega))
      · rw [q3.1]; rfl
