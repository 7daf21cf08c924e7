/-! the calls that the law makes -/
theorem s_checkRoot (S : St) {r : Nat} (hr : r < 6) : m_Te_checkRoot S (nI r) = some () := by
  unfold m_Te_checkRoot
  rw [if_neg (n_nneg (by omega)), if_pos (by rw [show (6 : Int32) = nI 6 from rfl, n_lt (by omega) (by omega)]; exact hr)]
def upW (W : Nat → Nat) (s w : Nat) : Nat → Nat := fun x => if x = s then w else W x
theorem s_rootCall {S : St} {M r : Nat} {A W : Nat → Nat} (hI : INV S M) (hP : P4 S A W) (hr : r < 6) (hB : ∀ s, W s ≤ 1000000000) :
    ∃ v T W', m_Te_root S (nI r) (-1) = some (v, T) ∧ INV T M ∧ cN T = cN S ∧ P4 T W W' ∧ ∀ s, W s ≤ W' s ∧ W' s ≤ W s + 2000 := by
  obtain ⟨S1, e1, F1, q1⟩ := s_opens hP
  have hI1 := hI.pz F1
  have g1 : GEq S S1 := GEq.of F1 (fun a j q => by unfold pzc at q; omega)
  obtain ⟨hG, hC, hN, hM, hU⟩ := hI1
  obtain ⟨v, T, e2, F2, hI2, c2, w', k1, k2, k3⟩ := s_teRoot hG hC hN hM none (fun t h => by cases h) (Or.inl ⟨rfl, hU⟩) (fun t h => by cases h) hr q1.2.2.2.1
  have q2 : Q4 T W (upW W 3 w') := by
    obtain ⟨a, b, c, d⟩ := q1
    exact ⟨a.fr (F2 _ _ (by unfold fRt fG fL rowP; omega)) (F2 _ _ (by unfold fRt fG fL rowP; omega)) (F2 _ _ (by unfold fRt fG fL rowP; omega)), b.fr (F2 _ _ (by unfold fRt fG fL rowP; omega)) (F2 _ _ (by unfold fRt fG fL rowP; omega)) (F2 _ _ (by unfold fRt fG fL rowP; omega)),
      c.fr (F2 _ _ (by unfold fRt fG fL rowP; omega)) (F2 _ _ (by unfold fRt fG fL rowP; omega)) (F2 _ _ (by unfold fRt fG fL rowP; omega)), d.up k1 k2 (F2 _ _ (by unfold fRt fG fL rowP; omega)) (F2 _ _ (by unfold fRt fG fL rowP; omega))⟩
  have hb : ∀ s, W s ≤ upW W 3 w' s ∧ upW W 3 w' s ≤ W s + 2000 := fun s => by
    unfold upW
    by_cases z : s = 3
    · rw [if_pos z, z]; omega
    · rw [if_neg z]; omega
  obtain ⟨T3, e3, F3, q3⟩ := s_closes q2 (fun s => by have := hb s; have := hB s; omega)
  have g3 : GEq T T3 := GEq.of F3 (fun a j q => by unfold pzc at q; omega)
  unfold m_Te_root
  rw [o1_e (s_checkRoot S hr), o1_e (show m_Te_checkNameable S (-1) = some () by unfold m_Te_checkNameable; exact if_pos rfl), o1_e e1, ob_e (show m_Te_nameByRoot S1 (nI r) (-1) = some (v, T) from e2), o1_e e3]
  exact ⟨v, T3, _, rfl, hI2.pz F3, by rw [g3.c, c2, g1.c], q3, hb⟩
theorem s_stepsCall {S : St} {M a : Nat} {A W : Nat → Nat} (hI : INV S M) (hP : P4 S A W) (ha : 1 ≤ a) (ha2 : a ≤ 20) (hB : ∀ s, W s ≤ 1000000000) :
    ∃ v T W', m_Te_steps S (nI a) = some (v, T) ∧ INV T M ∧ cN T = cN S ∧ P4 T W W' ∧ ∀ s, W s ≤ W' s ∧ W' s ≤ W s + 2000 := by
  obtain ⟨h0, h1, h2, h3⟩ := hP
  obtain ⟨S1, e1, F1, q1⟩ := s_open h2
  have F1' : Fr pzc S S1 := F1.mono (fun a j q => by unfold pzc; omega)
  have g1 : GEq S S1 := GEq.of F1 (fun a j q => by omega)
  obtain ⟨hG, hC, hN, hM, hU⟩ := hI.pz F1'
  obtain ⟨v, T, e2, F2, hM2, w', k1, k2, k3⟩ := s_maGoOn hG.1 hM q1.1 ha2
  have g2 := geq_Ma F2
  have hGT : GI T := hG.eq g2 (fun j => F2 _ _ (by unfold fMa; omega))
  have hr : ∀ t ∈ rcL T, t ∈ rcL S1 := fun t ht => by rw [rcL_eq g2] at ht; exact ht
  have hI2 : INV T M := ⟨hGT, hC.tr hGT.1 (by rw [g2.c]; exact Nat.le_refl _) (fun t _ => by rw [wN_eq g2]) (fun j => F2 _ _ (by unfold fMa; omega)) (fun j => F2 _ _ (by unfold fMa; omega)) (F2 _ _ (by unfold fMa; omega)) (F2 _ _ (by unfold fMa; omega)) (F2 _ _ (by unfold fMa; omega)) (F2 _ _ (by unfold fMa; omega)) (fun _ t ht => Or.inl (hr t ht)),
    hN.tr hGT.1 (by rw [g2.c]; exact Nat.le_refl _) (fun t _ => by rw [wN_eq g2]) (fun a j h1 h2 => F2 _ _ (by unfold fMa; omega)) (fun j h1 h2 h3 => F2 _ _ (by unfold fMa; omega)) (fun _ t ht => Or.inl (hr t ht)), hM2,
    hU.fr (SEq.of F2 (fun a j q => by unfold fMa at q; omega)) (F2 _ _ (by unfold fMa; omega)) (F2 _ _ (by unfold fMa; omega)) (fun j => F2 _ _ (by unfold fMa; omega))⟩
  have b2 := hB 2
  obtain ⟨T3, e3, F3, q3⟩ := s_close (q1.up (T := T) k1 k2 (F2 _ _ (by unfold fMa; omega)) (F2 _ _ (by unfold fMa; omega))) (by omega)
  have F3' : Fr pzc T T3 := F3.mono (fun a j q => by unfold pzc; omega)
  have g3 : GEq T T3 := GEq.of F3 (fun a j q => by omega)
  unfold m_Te_steps
  rw [if_neg (by rw [show (1 : Int32) = nI 1 from rfl, n_lt (by omega) (by omega)]; omega), if_pos (by rw [show (20 : Int32) = nI 20 from rfl, n_le (by omega) (by omega)]; exact ha2), o1_e e1, ob_e e2, o1_e e3]
  refine ⟨v, T3, upW W 2 w', rfl, hI2.pz F3', by rw [g3.c, g2.c, g1.c], ⟨?_, ?_, ?_, ?_⟩, fun s => ?_⟩
  · exact ((h0.self.fr (F1 _ _ (by omega)) (F1 _ _ (by omega))).fr (F2 _ _ (by unfold fMa; omega)) (F2 _ _ (by unfold fMa; omega))).fr (F3 _ _ (by omega)) (F3 _ _ (by omega))
  · exact ((h1.self.fr (F1 _ _ (by omega)) (F1 _ _ (by omega))).fr (F2 _ _ (by unfold fMa; omega)) (F2 _ _ (by unfold fMa; omega))).fr (F3 _ _ (by omega)) (F3 _ _ (by omega))
  · exact q3
  · exact ((h3.self.fr (F1 _ _ (by omega)) (F1 _ _ (by omega))).fr (F2 _ _ (by unfold fMa; omega)) (F2 _ _ (by unfold fMa; omega))).fr (F3 _ _ (by omega)) (F3 _ _ (by omega))
  · unfold upW
    by_cases z : s = 2
    · rw [if_pos z, z]; omega
    · rw [if_neg z]; omega
