theorem s_lower14 : ∀ (n i : Nat) (S : St) (L : List Nat) (W : Nat), GW S → CE S (fc S (L.drop i)) → CP S (fc S (L.drop i)) → CL S → RowIs S 49 L → (∀ t ∈ L, hB S 42 t = false ∧ t < cN S) → S 42 3 = nI W → i ≤ 80 → 80 - i < n →
    ∃ T, m_Cou_lower_L14 n S (nI i) = some T ∧ Fr fL S T ∧ CE T (fun _ => 0) ∧ CP T (fun _ => 0) ∧ CL T ∧ (∀ t, hB T 42 t = true → hB S 42 t = true) ∧ ∃ W', T 42 3 = nI W' ∧ W ≤ W' ∧ W' ≤ W + 3 * (80 - i) := by
  intro n
  induction n with
  | zero => intro i S L W _ _ _ _ _ _ _ h1 h2; omega
  | succ n ih =>
    intro i S L W hG hE hP hC hL hLn hW h1 h2
    have h80 := hG.2.1
    have hlen := hL.len
    rw [m_Cou_lower_L14, hL.2.2.1]
    by_cases hi : L.length ≤ i
    · rw [if_pos (by rw [n_le (by omega) (by omega)]; exact hi)]
      rw [List.drop_of_length_le hi] at hE hP
      exact ⟨S, rfl, Fr.rfl', hE, hP, hC, fun _ h => h, W, hW, Nat.le_refl _, by omega⟩
    · obtain ⟨x, hx⟩ : ∃ x, L[i]? = some x := ⟨L[i]'(by omega), List.getElem?_eq_getElem (by omega)⟩
      have hxc := (hLn x (List.mem_of_getElem? hx)).2
      rw [if_neg (by rw [n_le (by omega) (by omega)]; exact hi), if_neg (by rw [show (80 : Int32) = nI 80 from rfl, n_le (by omega) (by omega)]; omega), o1_e (s_get hL i (by omega)), hx, oI_s]
      rw [drop_cons hx] at hE hP
      have hdl : (L.drop (i + 1)).length ≤ 80 := by rw [List.length_drop]; omega
      obtain ⟨T, L1, e, F, R1, E1, P1, C1, N1, B1, W1, w1, w2, w3⟩ := s_lower43 200 0 S (fc S (L.drop (i + 1))) L W hG hxc (hE.congr (fun t => by rw [fc_c]; exact Nat.add_comm _ _)) (hP.congr (fun t => by rw [fc_c]; exact Nat.add_comm _ _)) hC
        (fun t => by have := fc_le' hG (L.drop (i + 1)) t; omega) hL hLn hW (by omega) (by omega)
      have g := geq_L F
      have hdrop : (L ++ L1).drop (i + 1) = L.drop (i + 1) ++ L1 := List.drop_append_of_le_length (by omega)
      obtain ⟨U, e2, F2, E2, P2, C2, B2, W2, v1, v2, v3⟩ := ih (i + 1) T (L ++ L1) W1 (hG.eq g) (E1.congr (fun t => by rw [hdrop, fc_eq g, fc_a])) (P1.congr (fun t => by rw [hdrop, fc_eq g, fc_a])) C1 R1 N1 w1 (by omega) (by omega)
      rw [o1_e (show m_Cou_lower_L43 200 S (nI x) 0 = some T from e), nI_1]
      exact ⟨U, e2, F.tr F2, E2, P2, C2, fun t ht => B1 t (B2 t ht), W2, v1, by omega, by omega⟩
theorem s_lower {S : St} {W x : Nat} (hG : GW S) (hx : x < cN S) (hE : CE S (oc1 (some x))) (hP : CP S (oc1 (some x))) (hC : CL S) (hW : S 42 3 = nI W) :
    ∃ T, m_Cou_lower S (nI x) = some T ∧ Fr fL S T ∧ CE T (fun _ => 0) ∧ CP T (fun _ => 0) ∧ CL T ∧ (∀ t, hB T 42 t = true → hB S 42 t = true) ∧ ∃ W', T 42 3 = nI W' ∧ W ≤ W' ∧ W' ≤ W + 241 := by
  obtain ⟨T0, e0, F0, R0⟩ := s_empty 49 S
  have g0 := GEq.row F0 (by omega)
  have b0 : ∀ t, hB T0 42 t = hB S 42 t := fun t => hB_eq (fun j => F0 _ _ (by unfold rowP; omega)) t
  have E0 : CE T0 (oc1 (some x)) := fun t ht hh => by
    rw [g0.c] at ht; rw [b0] at hh
    rw [nf_eq g0 b0, nr_eq g0, F0 46 t (by unfold rowP; omega)]; exact hE t ht hh
  have P0 : CP T0 (oc1 (some x)) := fun t ht hh => by
    rw [g0.c] at ht; rw [b0] at hh
    rw [nf_eq g0 b0, nr_eq g0]; exact hP t ht hh
  have C0 : CL T0 := ⟨fun u t hu hh hk => by rw [g0.c] at hu; rw [b0] at hh ⊢; rw [kids_eq g0] at hk; exact hC.1 u t hu hh hk, fun r t hr h1 => by rw [g0.r] at h1; rw [b0]; exact hC.2.1 r t hr h1, fun t ht hh => by rw [g0.c]; rw [b0] at hh; exact hC.2.2 t ht hh⟩
  obtain ⟨T1, L1, e1, F1, R1, E1, P1, C1, N1, B1, W1, w1, w2, w3⟩ := s_lowerOnce (q := fun _ => 0) (hG.eq g0) (some x) (fun t h => by cases h; rw [g0.c]; exact hx) (E0.congr (fun t => (Nat.zero_add _).symm)) (P0.congr (fun t => (Nat.zero_add _).symm)) C0 (fun _ => by omega) R0 (fun t h => by cases h) ((F0 42 3 (by unfold rowP; omega)).trans hW)
  have g1 := geq_L F1
  rw [List.nil_append] at R1 N1
  obtain ⟨T2, e2, F2, E2, P2, C2, B2, W2, v1, v2, v3⟩ := s_lower14 200 0 T1 L1 W1 ((hG.eq g0).eq g1) (E1.congr (fun t => by rw [List.drop_zero, fc_eq g1]; exact Nat.zero_add _)) (P1.congr (fun t => by rw [List.drop_zero, fc_eq g1]; exact Nat.zero_add _)) C1 R1 N1 w1 (by omega) (by omega)
  unfold m_Cou_lower
  rw [o1_e e0, ← oI_s x, o1_e e1, o1_e (show m_Cou_lower_L14 200 T1 0 = some T2 from e2)]
  exact ⟨T2, rfl, ((F0.mono (fun a j q => by unfold fL; exact Or.inr (Or.inr (Or.inr (Or.inl q))))).tr F1).tr F2, E2, P2, C2, fun t ht => by rw [← b0]; exact B1 t (B2 t ht), W2, v1, by omega, by omega⟩
/-- a name has changed: the counts do not know it yet -/
def CN (S : St) (before after : Option Nat) : Prop := (∀ t, t < cN S → hB S 42 t = true → ∃ m, S 46 t = nI m ∧ m + oc1 after t = nf S t + nr S t + oc1 before t) ∧ CP S (oc1 before) ∧ CL S
theorem s_couLearn {S : St} {W : Nat} (hG : GW S) (a1 : Int32) (b o : Option Nat) (hb : ∀ t, b = some t → t < cN S) (ho : ∀ t, o = some t → t < cN S) (hN : CN S b o) (hW : S 42 3 = nI W) :
    ∃ T, m_Cou_learnNaming S a1 (oI b) (oI o) = some T ∧ Fr fL S T ∧ CE T (fun _ => 0) ∧ CP T (fun _ => 0) ∧ CL T ∧ (∀ t, hB T 42 t = true → hB S 42 t = true) ∧ ∃ W', T 42 3 = nI W' ∧ W ≤ W' ∧ W' ≤ W + 242 := by
  have h80 := hG.2.1
  obtain ⟨hE, hP, hC⟩ := hN
  have hb8 : B80 b := fun t h => Nat.lt_of_lt_of_le (hb t h) h80
  have ho8 : B80 o := fun t h => Nat.lt_of_lt_of_le (ho t h) h80
  have second : ∀ (U : St) (W1 : Nat), GEq S U → Fr fL S U → (∀ t, hB U 42 t = hB S 42 t) → CE U (oc1 b) → U 42 3 = nI W1 → W ≤ W1 → W1 ≤ W + 1 →
      ∃ T, (o1 (m_St_has 42 1 U (oI b)) fun r2 => if r2 = 0 then some U else o1 (m_Cou_lower U (oI b)) fun S1 => some S1) = some T ∧ Fr fL S T ∧ CE T (fun _ => 0) ∧ CP T (fun _ => 0) ∧ CL T ∧ (∀ t, hB T 42 t = true → hB S 42 t = true) ∧ ∃ W', T 42 3 = nI W' ∧ W ≤ W' ∧ W' ≤ W + 242 := by
    intro U W1 g F bU EU hW1 w1 w2
    have PU : CP U (oc1 b) := fun t ht hh => by rw [g.c] at ht; rw [bU] at hh; rw [nf_eq g bU, nr_eq g]; exact hP t ht hh
    have CU : CL U := ⟨fun u t hu hh hk => by rw [g.c] at hu; rw [bU] at hh ⊢; rw [kids_eq g] at hk; exact hC.1 u t hu hh hk, fun r t hr h1 => by rw [g.r] at h1; rw [bU]; exact hC.2.1 r t hr h1, fun t ht hh => by rw [g.c]; rw [bU] at hh; exact hC.2.2 t ht hh⟩
    rw [o1_e (s_has (k := 42) (d := 1) b hb8)]
    by_cases hh : hO U 42 b = true
    · cases b with
      | none => cases hh
      | some x =>
        obtain ⟨T, e, F2, E2, P2, C2, B2, W2, v1, v2, v3⟩ := s_lower (hG.eq g) (by rw [g.c]; exact hb x rfl) EU PU CU hW1
        rw [hh, if_neg (by decide), oI_s, o1_e e]
        exact ⟨T, rfl, F.tr F2, E2, P2, C2, fun t ht => by rw [← bU]; exact B2 t ht, W2, v1, by omega, by omega⟩
    · rw [Bool.eq_false_iff.mpr hh, if_pos (show zb false = 0 from rfl)]
      have hoc : ∀ t, hB U 42 t = true → oc1 b t = 0 := fun t ht => if_neg (fun z => by subst z; exact hh ht)
      refine ⟨U, rfl, F, fun t ht hx => ?_, fun t ht hx => ?_, CU, fun t ht => by rw [← bU]; exact ht, W1, hW1, w1, by omega⟩
      · have := EU t ht hx; rw [hoc t hx] at this; exact this
      · have := PU t ht hx; rw [hoc t hx] at this; exact this
  unfold m_Cou_learnNaming
  rw [o1_e (s_has (k := 42) (d := 1) o ho8)]
  by_cases hh : hO S 42 o = true
  · cases o with
    | none => cases hh
    | some x =>
      rw [hO_s] at hh
      have hx := ho x rfl
      rw [hO_s, hh, if_neg (by decide), oI_s, oi_t (n_in (by omega) (by omega)), oi_t (n_in (by omega) (by omega))]
      simp only [n_cl (show x < 2147483648 by omega)]
      obtain ⟨m, hm, hm2⟩ := hE x hx hh
      rw [show oc1 (some x) x = 1 from if_pos rfl] at hm2
      rw [hm, hW, nI_1, nI_1]
      have F1 : Fr fL S (u2 (u2 S 46 x (nI (m + 1))) 42 3 (nI (W + 1))) := ((Fr.u2 _ _ _ _).mono (fun a j h => by unfold fL; omega)).tr ((Fr.u2 _ _ _ _).mono (fun a j h => by unfold fL; omega))
      have g1 := geq_L F1
      have b1 : ∀ t, hB (u2 (u2 S 46 x (nI (m + 1))) 42 3 (nI (W + 1))) 42 t = hB S 42 t := fun t => hB_eq (fun j => by rw [u2_n (by omega), u2_n (by omega)]) t
      obtain ⟨T, e, k⟩ := second _ (W + 1) g1 F1 b1 (fun t ht hx2 => by
        rw [g1.c] at ht; rw [b1] at hx2
        rw [nf_eq g1 b1, nr_eq g1, u2_n (by omega)]
        by_cases htx : t = x
        · subst htx; rw [u2_e, hm2]
        · rw [u2_n (fun z => htx z.2)]
          obtain ⟨m2, a, c⟩ := hE t ht hx2
          rw [show oc1 (some x) t = 0 from if_neg (fun z => by cases z; exact htx rfl), Nat.add_zero] at c
          rw [a, c]) (u2_e _ _ _ _) (by omega) (Nat.le_refl _)
      exact ⟨T, e, k⟩
  · rw [Bool.eq_false_iff.mpr hh, if_pos (show zb false = 0 from rfl)]
    have hoc : ∀ t, hB S 42 t = true → oc1 o t = 0 := fun t ht => if_neg (fun z => by subst z; exact hh ht)
    exact second S W GEq.rfl' Fr.rfl' (fun _ => rfl) (fun t ht hx => by
      obtain ⟨m2, a, c⟩ := hE t ht hx
      rw [hoc t hx, Nat.add_zero] at c
      rw [a, c]) hW (Nat.le_refl _) (by omega)
