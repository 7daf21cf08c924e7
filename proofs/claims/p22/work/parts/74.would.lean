/-! what a collecting would do, and does -/
def WE (lo hi : Nat) (S T : St) : Prop := GI T ∧ GEq S T ∧ ∀ a j, lo ≤ a → a < hi → ¬ scr a j → T a j = S a j
def COL (T T' : St) (k d go W wk : Nat) : Prop := T' k (d + 2) = nI (W + wk) ∧ go ≤ sm (hadU T k) (cN T) ∧ (T' k (d + 5) ≠ 0 → sm (hadU T' k) (cN T') = 0) ∧ (T' k (d + 5) = 0 → sm (hadU T' k) (cN T') + go = sm (hadU T k) (cN T))
theorem nscr {a j : Nat} (h : ¬ ((9 ≤ a ∧ a ≤ 11) ∨ a = 34 ∨ (39 ≤ a ∧ a ≤ 41) ∨ a = 45 ∨ a = 48 ∨ (52 ≤ a ∧ a ≤ 57))) : ¬ scr a j := fun q => h (scr_lo q)
theorem u_none {S : St} {k : Nat} (hG : GW S) (h : ∀ t, t < 80 → hB S k t = false) : sm (hadU S k) (cN S) = 0 := u_zero (fun t ht hb => by
  rw [h t (by have := hG.2.1; omega)] at hb; cases hb)
theorem hadU_eq {S T : St} {k : Nat} (g : GEq S T) (h : ∀ t, hB T k t = hB S k t) : sm (hadU T k) (cN T) = sm (hadU S k) (cN S) := by
  rw [g.c]
  congr 1
  funext t
  unfold hadU
  rw [h, rcL_eq g]
theorem hadR_eq {S T : St} {k : Nat} (g : GEq S T) (h : ∀ t, hB T k t = hB S k t) : sm (hadR T k) (cN T) = sm (hadR S k) (cN S) := by
  rw [g.c]
  congr 1
  funext t
  unfold hadR
  rw [h, rcL_eq g, wN_eq g]
theorem w_co {S : St} {M A W : Nat} (hI : CoI S M) (hM : M < 160) (hP : PS S 12 0 A W) (hW : W ≤ 1000000000) : ∃ go wk, ∀ T, WE 12 18 S T →
    m_Te_wouldGo T (nI 0) = some (nI go, T) ∧ m_Te_wouldWork T (nI 0) = some (nI wk, T) ∧ ∃ T', m_Te_collect T (nI 0) = some (nI go, T') ∧ Fr (fun a _ => 11 < a ∧ a < 18) T T' ∧ COL T T' 12 0 go W wk ∧ sm (hadU T' 12) (cN T') = 0 := by
  refine ⟨if S 12 5 = 0 then sm (hadU S 12) (cN S) else 0, if S 12 5 = 0 then sm (hadR S 12) (cN S) else 0, fun T hE => ?_⟩
  obtain ⟨hT, g, hc⟩ := hE
  have hc' : ∀ a j, 11 < a → a < 18 → T a j = S a j := fun a j h1 h2 => hc a j h1 h2 (nscr (by omega))
  have hb : ∀ t, hB T 12 t = hB S 12 t := hB_eq (fun j => hc' _ _ (by omega) (by omega))
  have hIT : CoI T M := co_fr hI hT.1 g (fun a j h1 h2 _ => hc' a j h1 h2)
  have h5 : T 12 5 = S 12 5 := hc' _ _ (by omega) (by omega)
  rw [← hadU_eq g hb, ← hadR_eq g hb, ← h5]
  have hPT : PS T 12 0 A W := hP.fr (hc' _ _ (by omega) (by omega)) (hc' _ _ (by omega) (by omega))
  obtain ⟨S1, e1, F1, q1⟩ := s_open hPT
  have g1 : GEq T S1 := GEq.of F1 (fun a j q => by omega)
  have hG1 : GI S1 := hT.eq g1 (fun j => F1 _ _ (by omega))
  have hI1 : CoI S1 M := co_fr hIT hG1.1 g1 (fun a j h1 h2 h3 => F1 _ _ (by omega))
  have hb1 : ∀ t, hB S1 12 t = hB T 12 t := hB_eq (fun j => F1 _ _ (by omega))
  have h51 : S1 12 5 = T 12 5 := F1 _ _ (by omega)
  by_cases z : T 12 5 = 0
  · rw [if_pos z, if_pos z]
    refine ⟨?_, ?_, ?_⟩
    · unfold m_Te_wouldGo m_Cop_countToGo
      rw [o1_e (s_storeOf T (s := 0) (by omega)), if_pos (by decide), if_pos z, s_countUn 12 0 hT]; rfl
    · unfold m_Te_wouldWork m_Cop_workToDo
      rw [o1_e (s_storeOf T (s := 0) (by omega)), if_pos (by decide), if_pos z, s_wordsR 12 0 hT]; rfl
    · obtain ⟨T2, e2, F2, i2, k1, k2, k3, k4, k5⟩ := s_coCollect hG1 hI1 (by omega) (h51.trans z) q1.1
      have g2 := geq_Co F2
      have hR : sm (hadR S1 12) (cN S1) ≤ 320 := by
        rw [r_sum hG1.1 ((hI1.po hG1.1).2.2 (h51.trans z))]
        exact lw_le hG1.1 (rc_nodup S1) (rc_lt hG1.1)
      obtain ⟨T3, e3, F3, q3⟩ := s_close (q1.up (T := T2) k2 (by omega) (F2 _ _ (by unfold fCo; omega)) (F2 _ _ (by unfold fCo; omega))) (by omega)
      have g3 : GEq T2 T3 := GEq.of F3 (fun a j q => by omega)
      have hu0 : sm (hadU T3 12) (cN T3) = 0 := by
        rw [hadU_eq g3 (hB_eq (fun j => F3 _ _ (by omega)))]
        refine u_zero (fun t ht hbt => ?_)
        have h80 := hG1.1.2.1
        rw [g2.c] at ht
        rw [k3 t (by omega), decide_eq_true_iff] at hbt
        rw [rcL_eq g2]; exact hbt
      refine ⟨T3, ?_, ?_, ⟨?_, Nat.le_refl _, fun _ => hu0, fun _ => by rw [hu0, Nat.zero_add]⟩, hu0⟩
      · unfold m_Te_collect m_St_cleanUp_Cop
        rw [o1_e (s_storeOf T (s := 0) (by omega)), if_pos (by decide), o1_e e1, if_pos (h51.trans z), ob_e (ob_e e2), o1_e e3, hadU_eq g1 hb1]
      · exact ((F1.mono (fun a j q => by omega)).tr (F2.mono (fun a j q => by unfold fCo at q; omega))).tr (F3.mono (fun a j q => by omega))
      · rw [q3.1, hadR_eq g1 hb1]
  · rw [if_neg z, if_neg z]
    refine ⟨?_, ?_, ?_⟩
    · unfold m_Te_wouldGo
      rw [o1_e (s_storeOf T (s := 0) (by omega)), if_pos (by decide), if_neg z]; rfl
    · unfold m_Te_wouldWork
      rw [o1_e (s_storeOf T (s := 0) (by omega)), if_pos (by decide), if_neg z]; rfl
    · obtain ⟨T3, e3, F3, q3⟩ := s_close q1 (by omega)
      have g3 : GEq S1 T3 := GEq.of F3 (fun a j q => by omega)
      have hu : sm (hadU T 12) (cN T) = 0 := u_none hT.1 (hIT.2.1 z)
      have hu0 : sm (hadU T3 12) (cN T3) = 0 := by
        rw [hadU_eq g3 (hB_eq (fun j => F3 _ _ (by omega))), hadU_eq g1 hb1]; exact hu
      refine ⟨T3, ?_, ?_, ⟨?_, Nat.zero_le _, fun _ => hu0, fun _ => by rw [hu0, hu]⟩, hu0⟩
      · unfold m_Te_collect m_St_cleanUp_Cop
        rw [o1_e (s_storeOf T (s := 0) (by omega)), if_pos (by decide), o1_e e1, if_neg (fun y => z (h51.symm.trans y)), ob_e rfl, o1_e e3]; rfl
      · exact (F1.mono (fun a j q => by omega)).tr (F3.mono (fun a j q => by omega))
      · rw [q3.1]; rfl
