/-! what a collecting of the third store would do, and does -/
theorem ite_le1 (c : Prop) [Decidable c] : (if c then 1 else 0) ≤ 1 := by
  by_cases z : c
  · rw [if_pos z]; exact Nat.le_refl _
  · rw [if_neg z]; exact Nat.zero_le _
theorem goF_le {S : St} (hG : GW S) (w : Nat → Bool) (L : List Nat) : sm (goF w L) (cN S) ≤ 80 := Nat.le_trans (sm_pos (fun i _ => ite_le1 _)) hG.2.1
theorem hd1_le {S : St} (hG : GW S) (k : Nat) : sm (had1 S k) (cN S) ≤ 80 := Nat.le_trans (sm_pos (fun i _ => ite_le1 _)) hG.2.1
theorem hdU_le {S : St} (hG : GW S) (k : Nat) : sm (hadU S k) (cN S) ≤ 80 := Nat.le_trans (sm_pos (fun i _ => ite_le1 _)) hG.2.1
theorem w_ma {S : St} {M A W : Nat} (hG : GI S) (hI : MaI S M) (hM : M < 160) (hP : PS S 31 1 A W) (hW : W ≤ 1000000000) : ∃ go wk, wk ≤ 400 ∧ ∀ T, WE 31 42 S T →
    (∃ T', m_Te_wouldGo T (nI 2) = some (nI go, T') ∧ Fr scr T T') ∧ (∃ T', m_Te_wouldWork T (nI 2) = some (nI wk, T') ∧ Fr scr T T') ∧ ∃ T', m_Te_collect T (nI 2) = some (nI go, T') ∧ Fr (fun a _ => 30 < a ∧ a < 42) T T' ∧ COL T T' 31 1 go W wk ∧
      MaI T' M ∧ PS T' 31 1 W (W + wk) ∧ (T' 31 6 ≠ 0 ∨ T' 31 10 = 0) ∧ (T 31 6 ≠ 0 ∨ T 31 10 = 0 → sm (hadU T' 31) (cN T') = 0) := by
  have hbb := hI.1
  by_cases z : S 31 6 = 0
  · obtain ⟨F0, hF, hl, hn, -⟩ := s_maCollect hG.1 (hI.2 z) hP.1
    have hwk : sm (had1 S 31) (cN S) + lsum (wN S) (clo (wk S (wc S)) 80 0 F0) ≤ 400 := by
      have := hd1_le hG.1 31
      have := lw_le hG.1 hn hl
      omega
    refine ⟨sm (goF (wc S) (clo (wk S (wc S)) 80 0 F0)) (cN S), sm (had1 S 31) (cN S) + lsum (wN S) (clo (wk S (wc S)) 80 0 F0), hwk, fun T hE => ?_⟩
    obtain ⟨hT, g, hc⟩ := hE
    have hc' : ∀ a j, 30 < a → a < 42 → (a < 34 ∨ 34 < a ∧ a < 39) → T a j = S a j := fun a j h1 h2 h3 => hc a j h1 h2 (nscr (by omega))
    have e : MEq S T := ⟨g, fun j => hc' _ _ (by omega) (by omega) (by omega), fun j => hc' _ _ (by omega) (by omega) (by omega), fun j => hc' _ _ (by omega) (by omega) (by omega), fun j => hc' _ _ (by omega) (by omega) (by omega), hc' _ _ (by omega) (by omega) (by omega), hc' _ _ (by omega) (by omega) (by omega), hc' _ _ (by omega) (by omega) (by omega)⟩
    have h6 : T 31 6 = S 31 6 := hc' _ _ (by omega) (by omega) (by omega)
    have hIT : MaI T M := hI.fr e (hc' _ _ (by omega) (by omega) (by omega)) h6 (fun j => hc' _ _ (by omega) (by omega) (by omega))
    obtain ⟨⟨T1, ea, Fa⟩, T2, eb, Fb⟩ := s_maWould hG.1 e hF hl
    have zT : T 31 6 = 0 := h6.trans z
    refine ⟨⟨T1, ?_, Fa.mono (fun a j q => Or.inr (Or.inr (Or.inl q)))⟩, ⟨T2, ?_, Fb.mono (fun a j q => Or.inr (Or.inr (Or.inl q)))⟩, ?_⟩
    · unfold m_Te_wouldGo
      rw [o1_e (s_storeOf T (s := 2) (by omega)), if_neg (by decide), if_neg (by decide), if_pos (by decide), if_pos zT, ob_e ea]
    · unfold m_Te_wouldWork
      rw [o1_e (s_storeOf T (s := 2) (by omega)), if_neg (by decide), if_neg (by decide), if_pos (by decide), if_pos zT, ob_e eb]
    · have hPT : PS T 31 1 A W := hP.fr (hc' _ _ (by omega) (by omega) (by omega)) (hc' _ _ (by omega) (by omega) (by omega))
      obtain ⟨S1, e1, F1, q1⟩ := s_open hPT
      have g1 : GEq T S1 := GEq.of F1 (fun a j q => by omega)
      have hG1 : GI S1 := hT.eq g1 (fun j => F1 _ _ (by omega))
      have hI1 : MaI S1 M := ma_fr hIT g1 (fun a j h1 h2 h3 => F1 _ _ (by omega))
      have em1 : MEq T S1 := MEq.of F1 (fun a j q => by omega)
      have hb1 : ∀ t, hB S1 31 t = hB T 31 t := em1.hb
      have z1 : S1 31 6 = 0 := (F1 31 6 (by omega)).trans zT
      obtain ⟨F0', hF', hl', hn', T2, e2, F2, m2, k1, k2, k3, k4, k5⟩ := s_maCollect hG1.1 (hI1.2 z1) q1.1
      have eS1 : MEq S S1 := ⟨e.1.trans em1.1, fun j => (em1.2.1 j).trans (e.2.1 j), fun j => (em1.2.2.1 j).trans (e.2.2.1 j), fun j => (em1.2.2.2.1 j).trans (e.2.2.2.1 j), fun j => (em1.2.2.2.2.1 j).trans (e.2.2.2.2.1 j), em1.2.2.2.2.2.1.trans e.2.2.2.2.2.1, em1.2.2.2.2.2.2.1.trans e.2.2.2.2.2.2.1, em1.2.2.2.2.2.2.2.trans e.2.2.2.2.2.2.2⟩
      obtain ⟨⟨_, p1, -⟩, _, p2, -⟩ := s_maWould hG.1 eS1 hF hl
      obtain ⟨⟨_, p1', -⟩, _, p2', -⟩ := s_maWould hG1.1 (T := S1) ⟨GEq.rfl', fun _ => rfl, fun _ => rfl, fun _ => rfl, fun _ => rfl, rfl, rfl, rfl⟩ hF' hl'
      rw [p1] at p1'
      rw [p2] at p2'
      have b1 := goF_le hG.1 (wc S) (clo (wk S (wc S)) 80 0 F0)
      have b1' := goF_le hG1.1 (wc S1) (clo (wk S1 (wc S1)) 80 0 F0')
      have b2' : sm (had1 S1 31) (cN S1) + lsum (wN S1) (clo (wk S1 (wc S1)) 80 0 F0') ≤ 400 := by
        have := hd1_le hG1.1 31
        have := lw_le hG1.1 hn' hl'
        omega
      have n1 := (n_eq (by omega) (by omega)).mp (Prod.mk.inj (Option.some.inj p1')).1
      have n2 := (n_eq (by omega) (by omega)).mp (Prod.mk.inj (Option.some.inj p2')).1
      rw [← n1] at e2 k4
      rw [← n2] at k3
      have g2 := geq_N F2
      have hbS : ∀ t, t < cN S1 → hB T2 31 t = true → hB S1 31 t = true := fun t _ => k2 t
      have h2 : ∀ j, T2 33 j = S1 33 j := fun j => F2 _ _ (by unfold fN' fM fG rowP fSw; omega)
      have h62 : T2 31 6 = S1 31 6 := F2 _ _ (by unfold fN' fM fG rowP fSw; omega)
      have hT2 : GI T2 := hG1.eq g2 (fun j => F2 _ _ (by unfold fN' fM fG rowP fSw; omega))
      have hI2 : MaI T2 M := ⟨⟨(F2 31 2 (by unfold fN' fM fG rowP fSw; omega)).trans hI1.1.1, fun t ht hb => by rw [g2.c]; exact hI1.1.2.1 t ht (k2 t hb), hI1.1.2.2.1.sub g2 hbS h2, fun q => absurd (h62.trans z1) q⟩, fun _ => m2⟩
      obtain ⟨T3, e3, F3, q3⟩ := s_close (q1.up (T := T2) k3 (by omega) (F2 _ _ (by unfold fN' fM fG rowP fSw; omega)) (F2 _ _ (by unfold fN' fM fG rowP fSw; omega))) (by omega)
      have g3 : GEq T2 T3 := GEq.of F3 (fun a j q => by omega)
      have hb3 : ∀ t, hB T3 31 t = hB T2 31 t := hB_eq (fun j => F3 _ _ (by omega))
      have hu3 : sm (hadU T3 31) (cN T3) = sm (hadU T2 31) (cN S1) := by rw [hadU_eq g3 hb3, g2.c]
      have hu1 : sm (hadU S1 31) (cN S1) = sm (hadU T 31) (cN T) := hadU_eq g1 hb1
      refine ⟨T3, ?_, ?_, ⟨q3.1, by omega, fun q => absurd ((F3 31 6 (by omega)).trans (h62.trans z1)) q, fun _ => by omega⟩, ma_fr hI2 g3 (fun a j h1 h2 h3 => F3 _ _ (by omega)), q3, Or.inr ((F3 31 10 (by omega)).trans k1), fun q => ?_⟩
      · unfold m_Te_collect m_St_cleanUp_Mar
        rw [o1_e (s_storeOf T (s := 2) (by omega)), if_neg (by decide), if_neg (by decide), if_pos (by decide), o1_e e1, if_pos z1, ob_e (ob_e e2), o1_e e3]
      · exact ((F1.mono (fun a j q => by omega)).tr (F2.mono (fun a j q => by unfold fN' fM fG rowP fSw at q; omega))).tr (F3.mono (fun a j q => by omega))
      · rw [hu3, ← g2.c]
        refine u_zero (fun t ht hbt => ?_)
        rw [rcL_eq g2]
        rw [g2.c] at ht
        exact k5 ((F1 31 10 (by omega)).trans (q.resolve_left (fun y => y zT))) t ht hbt
  · refine ⟨0, 0, Nat.zero_le _, fun T hE => ?_⟩
    obtain ⟨hT, g, hc⟩ := hE
    have hc' : ∀ a j, 30 < a → a < 42 → (a < 34 ∨ 34 < a ∧ a < 39) → T a j = S a j := fun a j h1 h2 h3 => hc a j h1 h2 (nscr (by omega))
    have e : MEq S T := ⟨g, fun j => hc' _ _ (by omega) (by omega) (by omega), fun j => hc' _ _ (by omega) (by omega) (by omega), fun j => hc' _ _ (by omega) (by omega) (by omega), fun j => hc' _ _ (by omega) (by omega) (by omega), hc' _ _ (by omega) (by omega) (by omega), hc' _ _ (by omega) (by omega) (by omega), hc' _ _ (by omega) (by omega) (by omega)⟩
    have h6 : T 31 6 = S 31 6 := hc' _ _ (by omega) (by omega) (by omega)
    have hIT : MaI T M := hI.fr e (hc' _ _ (by omega) (by omega) (by omega)) h6 (fun j => hc' _ _ (by omega) (by omega) (by omega))
    have zT : ¬ T 31 6 = 0 := fun q => z (h6.symm.trans q)
    refine ⟨⟨T, ?_, Fr.rfl'⟩, ⟨T, ?_, Fr.rfl'⟩, ?_⟩
    · unfold m_Te_wouldGo
      rw [o1_e (s_storeOf T (s := 2) (by omega)), if_neg (by decide), if_neg (by decide), if_pos (by decide), if_neg zT]; rfl
    · unfold m_Te_wouldWork
      rw [o1_e (s_storeOf T (s := 2) (by omega)), if_neg (by decide), if_neg (by decide), if_pos (by decide), if_neg zT]; rfl
    · have hPT : PS T 31 1 A W := hP.fr (hc' _ _ (by omega) (by omega) (by omega)) (hc' _ _ (by omega) (by omega) (by omega))
      obtain ⟨S1, e1, F1, q1⟩ := s_open hPT
      have g1 : GEq T S1 := GEq.of F1 (fun a j q => by omega)
      have hI1 : MaI S1 M := ma_fr hIT g1 (fun a j h1 h2 h3 => F1 _ _ (by omega))
      have hb1 : ∀ t, hB S1 31 t = hB T 31 t := hB_eq (fun j => F1 _ _ (by omega))
      have h61 : S1 31 6 = T 31 6 := F1 _ _ (by omega)
      obtain ⟨T3, e3, F3, q3⟩ := s_close q1 (by omega)
      have g3 : GEq S1 T3 := GEq.of F3 (fun a j q => by omega)
      have hu : sm (hadU T 31) (cN T) = 0 := u_none hT.1 (hIT.1.2.2.2 zT)
      have hu0 : sm (hadU T3 31) (cN T3) = 0 := by
        rw [hadU_eq g3 (hB_eq (fun j => F3 _ _ (by omega))), hadU_eq g1 hb1]; exact hu
      refine ⟨T3, ?_, ?_, ⟨q3.1, Nat.zero_le _, fun _ => hu0, fun _ => by rw [hu0, hu]⟩, ma_fr hI1 g3 (fun a j h1 h2 h3 => F3 _ _ (by omega)), q3, Or.inl (fun q => zT (h61.symm.trans ((F3 31 6 (by omega)).symm.trans q))), fun _ => hu0⟩
      · unfold m_Te_collect m_St_cleanUp_Mar
        rw [o1_e (s_storeOf T (s := 2) (by omega)), if_neg (by decide), if_neg (by decide), if_pos (by decide), o1_e e1, if_neg (fun y => zT (h61.symm.trans y)), ob_e rfl, o1_e e3]; rfl
      · exact (F1.mono (fun a j q => by omega)).tr (F3.mono (fun a j q => by omega))
