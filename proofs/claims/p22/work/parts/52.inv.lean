/-! the whole invariant -/
def INV (S : St) (M : Nat) : Prop := GI S ∧ CoI S M ∧ NuI S M ∧ MaI S M ∧ CuI S M
def pzc (a j : Nat) : Prop := ((a = 12 ∨ a = 18) ∧ (j = 2 ∨ j = 3 ∨ j = 6)) ∨ ((a = 31 ∨ a = 42) ∧ (j = 3 ∨ j = 4 ∨ j = 7))
theorem INV.pz {S T : St} {M : Nat} (h : INV S M) (F : Fr pzc S T) : INV T M := by
  obtain ⟨hG, hC, hN, hM, hU⟩ := h
  have g : GEq S T := GEq.of F (fun a j q => by unfold pzc at q; omega)
  have hGT : GI T := hG.eq g (fun j => F _ _ (by unfold pzc; omega))
  have hr : ∀ t ∈ rcL T, t ∈ rcL S := fun t ht => by rw [rcL_eq g] at ht; exact ht
  exact ⟨hGT, hC.tr hGT.1 (by rw [g.c]; exact Nat.le_refl _) (fun t _ => by rw [wN_eq g]) (fun j => F _ _ (by unfold pzc; omega)) (fun j => F _ _ (by unfold pzc; omega)) (F _ _ (by unfold pzc; omega)) (F _ _ (by unfold pzc; omega)) (F _ _ (by unfold pzc; omega)) (F _ _ (by unfold pzc; omega)) (fun _ t ht => Or.inl (hr t ht)),
    hN.tr hGT.1 (by rw [g.c]; exact Nat.le_refl _) (fun t _ => by rw [wN_eq g]) (fun a j h1 h2 => F _ _ (by unfold pzc; omega)) (fun j h1 h2 h3 => F _ _ (by unfold pzc; omega)) (fun _ t ht => Or.inl (hr t ht)),
    hM.fr (MEq.of F (fun a j q => by unfold pzc at q; omega)) (F _ _ (by unfold pzc; omega)) (F _ _ (by unfold pzc; omega)) (fun j => F _ _ (by unfold pzc; omega)),
    hU.fr (SEq.of F (fun a j q => by unfold pzc at q; omega)) (F _ _ (by unfold pzc; omega)) (F _ _ (by unfold pzc; omega)) (fun j => F _ _ (by unfold pzc; omega))⟩
def P4 (S : St) (A W : Nat → Nat) : Prop := PS S 12 0 (A 0) (W 0) ∧ PS S 18 0 (A 1) (W 1) ∧ PS S 31 1 (A 2) (W 2) ∧ PS S 42 1 (A 3) (W 3)
def Q4 (S : St) (A W : Nat → Nat) : Prop := PO1 S 12 0 (A 0) (W 0) ∧ PO1 S 18 0 (A 1) (W 1) ∧ PO1 S 31 1 (A 2) (W 2) ∧ PO1 S 42 1 (A 3) (W 3)
theorem PO1.fr {S T : St} {k d A W : Nat} (h : PO1 S k d A W) (h2 : T k (d + 2) = S k (d + 2)) (h3 : T k (d + 3) = S k (d + 3)) (h6 : T k (d + 6) = S k (d + 6)) : PO1 T k d A W := h.up (h2.trans h.1) (Nat.le_refl _) h3 h6
theorem s_opens {S : St} {A W : Nat → Nat} (h : P4 S A W) : ∃ T, m_Te_openPauses S = some T ∧ Fr pzc S T ∧ Q4 T W W := by
  obtain ⟨h0, h1, h2, h3⟩ := h
  obtain ⟨T0, e0, F0, q0⟩ := s_open h0
  obtain ⟨T1, e1, F1, q1⟩ := s_open (h1.fr (F0 _ _ (by omega)) (F0 _ _ (by omega)))
  obtain ⟨T2, e2, F2, q2⟩ := s_open ((h2.fr (F0 _ _ (by omega)) (F0 _ _ (by omega))).fr (F1 _ _ (by omega)) (F1 _ _ (by omega)))
  obtain ⟨T3, e3, F3, q3⟩ := s_open (((h3.fr (F0 _ _ (by omega)) (F0 _ _ (by omega))).fr (F1 _ _ (by omega)) (F1 _ _ (by omega))).fr (F2 _ _ (by omega)) (F2 _ _ (by omega)))
  unfold m_Te_openPauses
  rw [o1_e e0, o1_e e1, o1_e e2, o1_e e3]
  refine ⟨T3, rfl, (((F0.mono (fun a j q => by unfold pzc; omega)).tr (F1.mono (fun a j q => by unfold pzc; omega))).tr (F2.mono (fun a j q => by unfold pzc; omega))).tr (F3.mono (fun a j q => by unfold pzc; omega)), ?_, ?_, ?_, q3⟩
  · exact ((q0.fr (F1 _ _ (by omega)) (F1 _ _ (by omega)) (F1 _ _ (by omega))).fr (F2 _ _ (by omega)) (F2 _ _ (by omega)) (F2 _ _ (by omega))).fr (F3 _ _ (by omega)) (F3 _ _ (by omega)) (F3 _ _ (by omega))
  · exact (q1.fr (F2 _ _ (by omega)) (F2 _ _ (by omega)) (F2 _ _ (by omega))).fr (F3 _ _ (by omega)) (F3 _ _ (by omega)) (F3 _ _ (by omega))
  · exact q2.fr (F3 _ _ (by omega)) (F3 _ _ (by omega)) (F3 _ _ (by omega))
theorem s_closes {S : St} {A W : Nat → Nat} (h : Q4 S A W) (hW : ∀ s, W s < 2000000000) : ∃ T, m_Te_closePauses S = some T ∧ Fr pzc S T ∧ P4 T A W := by
  obtain ⟨h0, h1, h2, h3⟩ := h
  obtain ⟨T0, e0, F0, q0⟩ := s_close h0 (hW 0)
  obtain ⟨T1, e1, F1, q1⟩ := s_close (h1.fr (F0 _ _ (by omega)) (F0 _ _ (by omega)) (F0 _ _ (by omega))) (hW 1)
  obtain ⟨T2, e2, F2, q2⟩ := s_close ((h2.fr (F0 _ _ (by omega)) (F0 _ _ (by omega)) (F0 _ _ (by omega))).fr (F1 _ _ (by omega)) (F1 _ _ (by omega)) (F1 _ _ (by omega))) (hW 2)
  obtain ⟨T3, e3, F3, q3⟩ := s_close (((h3.fr (F0 _ _ (by omega)) (F0 _ _ (by omega)) (F0 _ _ (by omega))).fr (F1 _ _ (by omega)) (F1 _ _ (by omega)) (F1 _ _ (by omega))).fr (F2 _ _ (by omega)) (F2 _ _ (by omega)) (F2 _ _ (by omega))) (hW 3)
  unfold m_Te_closePauses
  rw [o1_e e0, o1_e e1, o1_e e2, o1_e e3]
  refine ⟨T3, rfl, (((F0.mono (fun a j q => by unfold pzc; omega)).tr (F1.mono (fun a j q => by unfold pzc; omega))).tr (F2.mono (fun a j q => by unfold pzc; omega))).tr (F3.mono (fun a j q => by unfold pzc; omega)), ?_, ?_, ?_, q3⟩
  · exact ((q0.fr (F1 _ _ (by omega)) (F1 _ _ (by omega))).fr (F2 _ _ (by omega)) (F2 _ _ (by omega))).fr (F3 _ _ (by omega)) (F3 _ _ (by omega))
  · exact (q1.fr (F2 _ _ (by omega)) (F2 _ _ (by omega))).fr (F3 _ _ (by omega)) (F3 _ _ (by omega))
  · exact q2.fr (F3 _ _ (by omega)) (F3 _ _ (by omega))
theorem ct_set {f g : Nat → Option Nat} {r t : Nat} (h : ∀ x, x ≠ r → g x = f x) : ∀ (n i : Nat), i ≤ r → r < i + n → ct ((List.range' i n).map g) t + oc1 (f r) t = ct ((List.range' i n).map f) t + oc1 (g r) t := by
  have same : ∀ (n i : Nat), r < i → ct ((List.range' i n).map g) t = ct ((List.range' i n).map f) t := by
    intro n
    induction n with
    | zero => intro i _; rfl
    | succ n ih => intro i hi; rw [List.range'_succ, List.map_cons, List.map_cons, ct_c, ct_c, h i (by omega), ih (i + 1) (by omega)]
  intro n
  induction n with
  | zero => intro i h1 h2; omega
  | succ n ih =>
    intro i h1 h2
    rw [List.range'_succ, List.map_cons, List.map_cons, ct_c, ct_c]
    by_cases q : i = r
    · subst q
      rw [same n (i + 1) (by omega)]
      unfold oc1; omega
    · have := ih (i + 1) (by omega) (by omega)
      rw [h i q]; omega
theorem nr_set {S T : St} {r : Nat} (hr : r < 6) (h : ∀ x, x ≠ r → rtO T x = rtO S x) (t : Nat) : nr T t + oc1 (rtO S r) t = nr S t + oc1 (rtO T r) t := by
  have e : ∀ U : St, nr U t = ct ((List.range' 0 6).map (rtO U)) t := fun U => by
    unfold nr rtsF
    rw [show (List.range' 0 (6 - 0)).map (fun r => if nI r = -1 then none else rtO U r) = (List.range' 0 6).map (rtO U) from List.map_congr_left (fun x hx => by
      have := List.mem_range'_1.mp hx
      exact if_neg (m1_ne (by omega)))]
  rw [e, e]
  exact ct_set h 6 0 (Nat.zero_le _) (by omega)
