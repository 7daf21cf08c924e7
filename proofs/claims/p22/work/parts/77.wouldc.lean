/-! what a collecting of the fourth store would do, and does -/
theorem w_cu {S : St} {M A W : Nat} (hG : GI S) (hI : CuI S M) (hP : PS S 42 1 A W) (hW : W ≤ 1000000000) : ∃ go wk, ∀ T, WE 42 58 S T →
    (∃ T', m_Te_wouldGo T (nI 3) = some (nI go, T') ∧ Fr scr T T') ∧ (∃ T', m_Te_wouldWork T (nI 3) = some (nI wk, T') ∧ Fr scr T T') ∧ ∃ T', m_Te_collect T (nI 3) = some (nI go, T') ∧ Fr (fun a _ => 41 < a ∧ a < 58) T T' ∧ COL T T' 42 1 go W wk := by
  by_cases z : S 42 6 = 0
  · obtain ⟨hE0, hP0, hC0⟩ := hI.2 z
    obtain ⟨_, g0, -, -, -, -, -, -, -, eg, bg⟩ := s_couCollect hG.1 hE0 hP0 hC0 hP.1
    refine ⟨g0, (spL S).length, fun T hE => ?_⟩
    obtain ⟨hT, g, hc⟩ := hE
    have hc' : ∀ a j, 41 < a → (a < 45 ∨ a = 46 ∨ a = 47) → T a j = S a j := fun a j h1 h3 => hc a j h1 (by omega) (nscr (by omega))
    have e : SEq S T := ⟨g, fun j => hc' _ _ (by omega) (by omega), fun j => hc' _ _ (by omega) (by omega), fun j => hc' _ _ (by omega) (by omega)⟩
    have h6 : T 42 6 = S 42 6 := hc' _ _ (by omega) (by omega)
    have hIT : CuI T M := hI.fr e (hc' _ _ (by omega) (by omega)) h6 (fun j => hc' _ _ (by omega) (by omega))
    obtain ⟨⟨T1, ea, Fa⟩, T2, eb, Fb⟩ := s_couWould hG.1 e
    have zT : T 42 6 = 0 := h6.trans z
    refine ⟨⟨T1, ?_, Fa.mono (fun a j q => Or.inr (Or.inr (Or.inr (Or.inr q))))⟩, ⟨T2, ?_, Fb.mono (fun a j q => Or.inr (Or.inr (Or.inr (Or.inr q))))⟩, ?_⟩
    · unfold m_Te_wouldGo
      rw [o1_e (s_storeOf T (s := 3) (by omega)), if_neg (by decide), if_neg (by decide), if_neg (by decide), if_pos (by decide), if_pos zT, ob_e ea, eg]
    · unfold m_Te_wouldWork
      rw [o1_e (s_storeOf T (s := 3) (by omega)), if_neg (by decide), if_neg (by decide), if_neg (by decide), if_pos (by decide), if_pos zT, ob_e eb]
    · have hPT : PS T 42 1 A W := hP.fr (hc' _ _ (by omega) (by omega)) (hc' _ _ (by omega) (by omega))
      obtain ⟨S1, e1, F1, q1⟩ := s_open hPT
      have g1 : GEq T S1 := GEq.of F1 (fun a j q => by omega)
      have hG1 : GI S1 := hT.eq g1 (fun j => F1 _ _ (by omega))
      have hI1 : CuI S1 M := cu_fr hIT g1 (fun a j h1 h3 => F1 _ _ (by omega))
      have em1 : SEq T S1 := SEq.of F1 (fun a j q => by omega)
      have hb1 : ∀ t, hB S1 42 t = hB T 42 t := em1.hb
      have z1 : S1 42 6 = 0 := (F1 42 6 (by omega)).trans zT
      obtain ⟨hE1, hP1, hC1⟩ := hI1.2 z1
      obtain ⟨T2, g2', e2, F2, m1, m2, m3, k2, k3, k4, k5⟩ := s_couCollect hG1.1 hE1 hP1 hC1 q1.1
      have eS1 : SEq S S1 := e.trans em1
      rw [spL_eq eS1, loL_eq eS1, eg] at e2 k4
      rw [spL_eq eS1] at k3
      have hsp : (spL S).length ≤ 80 := nd_len 80 _ (sp_nodup S) (fun t ht => Nat.lt_of_lt_of_le (sp_lt hG.1 t ht) hG.1.2.1)
      have b1 := hdU_le hG.1 42
      have b2 := hdU_le hG1.1 42
      have n1 := (n_eq (by omega) (by omega)).mp k4
      rw [← n1] at k5
      have g2 : GEq S1 T2 := GEq.of F2 (fun a j q => by unfold fCu at q; omega)
      have h62 : T2 42 6 = S1 42 6 := F2 _ _ (fun q => q.2.1 ⟨rfl, rfl⟩)
      obtain ⟨T3, e3, F3, q3⟩ := s_close (q1.up (T := T2) k3 (by omega) (F2 _ _ (by unfold fCu; omega)) (F2 _ _ (by unfold fCu; omega))) (by omega)
      have g3 : GEq T2 T3 := GEq.of F3 (fun a j q => by omega)
      have hb3 : ∀ t, hB T3 42 t = hB T2 42 t := hB_eq (fun j => F3 _ _ (by omega))
      have hu3 : sm (hadU T3 42) (cN T3) = sm (hadU T2 42) (cN T2) := hadU_eq g3 hb3
      have hu1 : sm (hadU S1 42) (cN S1) = sm (hadU T 42) (cN T) := hadU_eq g1 hb1
      refine ⟨T3, ?_, ?_, ⟨q3.1, by omega, fun q => absurd ((F3 42 6 (by omega)).trans (h62.trans z1)) q, fun _ => by omega⟩⟩
      · unfold m_Te_collect m_St_cleanUp_Cou
        rw [o1_e (s_storeOf T (s := 3) (by omega)), if_neg (by decide), if_neg (by decide), if_neg (by decide), if_pos (by decide), o1_e e1, if_pos z1, ob_e (ob_e e2), o1_e e3]
      · exact ((F1.mono (fun a j q => by omega)).tr (F2.mono (fun a j q => by unfold fCu at q; omega))).tr (F3.mono (fun a j q => by omega))
  · refine ⟨0, 0, fun T hE => ?_⟩
    obtain ⟨hT, g, hc⟩ := hE
    have hc' : ∀ a j, 41 < a → (a < 45 ∨ a = 46 ∨ a = 47) → T a j = S a j := fun a j h1 h3 => hc a j h1 (by omega) (nscr (by omega))
    have e : SEq S T := ⟨g, fun j => hc' _ _ (by omega) (by omega), fun j => hc' _ _ (by omega) (by omega), fun j => hc' _ _ (by omega) (by omega)⟩
    have h6 : T 42 6 = S 42 6 := hc' _ _ (by omega) (by omega)
    have hIT : CuI T M := hI.fr e (hc' _ _ (by omega) (by omega)) h6 (fun j => hc' _ _ (by omega) (by omega))
    have zT : ¬ T 42 6 = 0 := fun q => z (h6.symm.trans q)
    refine ⟨⟨T, ?_, Fr.rfl'⟩, ⟨T, ?_, Fr.rfl'⟩, ?_⟩
    · unfold m_Te_wouldGo
      rw [o1_e (s_storeOf T (s := 3) (by omega)), if_neg (by decide), if_neg (by decide), if_neg (by decide), if_pos (by decide), if_neg zT]; rfl
    · unfold m_Te_wouldWork
      rw [o1_e (s_storeOf T (s := 3) (by omega)), if_neg (by decide), if_neg (by decide), if_neg (by decide), if_pos (by decide), if_neg zT]; rfl
    · have hPT : PS T 42 1 A W := hP.fr (hc' _ _ (by omega) (by omega)) (hc' _ _ (by omega) (by omega))
      obtain ⟨S1, e1, F1, q1⟩ := s_open hPT
      have g1 : GEq T S1 := GEq.of F1 (fun a j q => by omega)
      have hb1 : ∀ t, hB S1 42 t = hB T 42 t := hB_eq (fun j => F1 _ _ (by omega))
      have h61 : S1 42 6 = T 42 6 := F1 _ _ (by omega)
      obtain ⟨T3, e3, F3, q3⟩ := s_close q1 (by omega)
      have g3 : GEq S1 T3 := GEq.of F3 (fun a j q => by omega)
      have hu : sm (hadU T 42) (cN T) = 0 := u_none hT.1 (hIT.1.2.2.2 zT)
      have hu0 : sm (hadU T3 42) (cN T3) = 0 := by
        rw [hadU_eq g3 (hB_eq (fun j => F3 _ _ (by omega))), hadU_eq g1 hb1]; exact hu
      refine ⟨T3, ?_, ?_, ⟨q3.1, Nat.zero_le _, fun _ => hu0, fun _ => by rw [hu0, hu]⟩⟩
      · unfold m_Te_collect m_St_cleanUp_Cou
        rw [o1_e (s_storeOf T (s := 3) (by omega)), if_neg (by decide), if_neg (by decide), if_neg (by decide), if_pos (by decide), o1_e e1, if_neg (fun y => zT (h61.symm.trans y)), ob_e rfl, o1_e e3]; rfl
      · exact (F1.mono (fun a j q => by omega)).tr (F3.mono (fun a j q => by omega))
