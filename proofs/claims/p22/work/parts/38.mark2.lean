/-! store 2: the sweep, the whole collecting, and what is foreseen -/
def fSw (a j : Nat) : Prop := a = 32 ∨ a = 35 ∨ (a = 31 ∧ (j = 3 ∨ j = 5 ∨ j = 10))
theorem geq_Sw {S T : St} (F : Fr fSw S T) : GEq S T := GEq.of F (fun a j q => by unfold fSw at q; omega)
theorem s_sw_L : ∀ (n i : Nat) (S : St), GW S → i ≤ cN S → cN S - i < n → ∃ T, m_Mar_sweep_L15 n S (nI i) = some T ∧ Fr (fun a _ => a = 32 ∨ a = 35) S T ∧ (∀ t, (t < i ∨ cN S ≤ t) → T 32 t = S 32 t ∧ T 35 t = S 35 t) ∧
    ∀ t, i ≤ t → t < cN S → (hB T 31 t = true ↔ hB S 31 t = true ∧ clO S (some t) ≠ 0) ∧ T 35 t = 0 := by
  intro n
  induction n with
  | zero => intro i S _ h1 h2; omega
  | succ n ih =>
    intro i S hG h1 h2
    have h80 := hG.2.1
    rw [m_Mar_sweep_L15, hG.1]
    by_cases hi : cN S ≤ i
    · rw [if_pos (by rw [n_le (by omega) (by omega)]; exact hi)]
      exact ⟨S, rfl, Fr.rfl', fun t _ => ⟨rfl, rfl⟩, fun t a b => by omega⟩
    · have hic : i < cN S := by omega
      rw [if_neg (by rw [n_le (by omega) (by omega)]; exact hi), ← oI_s i, o1_e (s_colourOf hG (some i) (b_s (by omega))), oI_s, nI_1]
      have step : ∀ S1 : St, Fr (fun a _ => a = 32 ∨ a = 35) S S1 → (∀ t, t ≠ i → S1 32 t = S 32 t ∧ S1 35 t = S 35 t) → (hB S1 31 i = true ↔ hB S 31 i = true ∧ clO S (some i) ≠ 0) → S1 35 i = 0 →
          ∃ T, m_Mar_sweep_L15 n S1 (nI (i + 1)) = some T ∧ Fr (fun a _ => a = 32 ∨ a = 35) S T ∧ (∀ t, (t < i ∨ cN S ≤ t) → T 32 t = S 32 t ∧ T 35 t = S 35 t) ∧
          ∀ t, i ≤ t → t < cN S → (hB T 31 t = true ↔ hB S 31 t = true ∧ clO S (some t) ≠ 0) ∧ T 35 t = 0 := by
        intro S1 F1 k1 k2 k3
        have g := GEq.of F1 (fun a j q => by omega)
        obtain ⟨T, e, F, k4, k5⟩ := ih (i + 1) S1 (hG.eq g) (by rw [g.c]; omega) (by rw [g.c]; omega)
        rw [g.c] at k4 k5
        refine ⟨T, e, F1.tr F, fun t ht => ?_, fun t a b => ?_⟩
        · have q := k4 t (by omega)
          have q2 := k1 t (by omega)
          exact ⟨q.1.trans q2.1, q.2.trans q2.2⟩
        · by_cases hti : t = i
          · subst hti
            have q := k4 t (by omega)
            refine ⟨?_, q.2.trans k3⟩
            rw [show hB T 31 t = hB S1 31 t by unfold hB; rw [show T (31 + 1) t = S1 (31 + 1) t from q.1]]
            exact k2
          · have q := k5 t (by omega) b
            have q2 := k1 t hti
            rw [show hB S1 31 t = hB S 31 t by unfold hB; rw [show S1 (31 + 1) t = S (31 + 1) t from q2.1], show clO S1 (some t) = clO S (some t) by
              rw [clO_s, clO_s, g.c, q2.2, show hB S1 31 t = hB S 31 t by unfold hB; rw [show S1 (31 + 1) t = S (31 + 1) t from q2.1]]] at q
            exact q
      by_cases hc : clO S (some i) = 0
      · have g0 : GEq S (u2 S (31 + 1) i 0) := ⟨rfl, fun _ => rfl, fun _ => rfl, fun _ => rfl⟩
        rw [if_pos hc, o1_e (s_letGo 31 1 S (by omega)), o1_e (s_paint (hG.eq g0) (by rw [g0.c]; exact hic) 0)]
        refine step _ (((Fr.u2 _ _ _ _).mono (fun a j q => by omega)).tr ((Fr.u2 _ _ _ _).mono (fun a j q => by omega))) (fun t ht => ⟨by rw [u2_n (by omega), u2_n (by omega)], by rw [u2_n (by omega), u2_n (by omega)]⟩) ?_ (u2_e _ _ _ _)
        rw [hB_t, u2_n (by omega), u2_e]
        exact ⟨fun z => absurd rfl z, fun z => absurd hc z.2⟩
      · rw [if_neg hc, o1_e (s_paint hG hic 0)]
        refine step _ ((Fr.u2 _ _ _ _).mono (fun a j q => by omega)) (fun t ht => ⟨by rw [u2_n (by omega)], by rw [u2_n (by omega)]⟩) ?_ (u2_e _ _ _ _)
        rw [show hB (u2 S 35 i 0) 31 i = hB S 31 i from hB_eq (fun j => by rw [u2_n (by omega)]) i]
        exact ⟨fun z => ⟨z, hc⟩, fun z => z.1⟩
theorem s_sweep {S : St} {W : Nat} (hG : GW S) (hW : S 31 3 = nI W) : ∃ T, m_Mar_sweep S = some T ∧ Fr fSw S T ∧ T 31 10 = 0 ∧ T 31 3 = nI (W + sm (had1 S 31) (cN S)) ∧
    (∀ t, t < cN S → (hB T 31 t = true ↔ hB S 31 t = true ∧ clO S (some t) ≠ 0) ∧ T 35 t = 0) ∧ ∀ t, cN S ≤ t → hB T 31 t = hB S 31 t := by
  have h80 := hG.2.1
  have F1 : Fr fSw S (u2 S 31 3 (nI (W + sm (had1 S 31) (cN S)))) := (Fr.u2 _ _ _ _).mono (fun a j q => by unfold fSw; omega)
  have g1 := geq_Sw F1
  obtain ⟨T, e, F2, k1, k2⟩ := s_sw_L 200 0 _ (hG.eq g1) (Nat.zero_le _) (by rw [g1.c]; omega)
  have hb1 : ∀ t, hB (u2 S 31 3 (nI (W + sm (had1 S 31) (cN S)))) 31 t = hB S 31 t := fun t => hB_eq (fun j => by rw [u2_n (by omega)]) t
  have hc1 : ∀ t, clO (u2 S 31 3 (nI (W + sm (had1 S 31) (cN S)))) (some t) = clO S (some t) := fun t => by rw [clO_s, clO_s, hb1, g1.c, u2_n (by omega)]
  rw [g1.c] at k1 k2
  simp only [hb1, hc1] at k2
  unfold m_Mar_sweep
  rw [o1_e (s_countHad 31 1 hG), hW, nI_add, o1_e (show m_Mar_sweep_L15 200 _ 0 = some T from e)]
  have F3 : Fr fSw T (u2 (u2 T 31 10 0) 31 5 (T 31 5 + 1)) := ((Fr.u2 _ _ _ _).mono (fun a j q => by unfold fSw; omega)).tr ((Fr.u2 _ _ _ _).mono (fun a j q => by unfold fSw; omega))
  have hb3 : ∀ t, hB (u2 (u2 T 31 10 0) 31 5 (T 31 5 + 1)) 31 t = hB T 31 t := fun t => hB_eq (fun j => by rw [u2_n (by omega), u2_n (by omega)]) t
  refine ⟨_, rfl, (F1.tr (F2.mono (fun a j q => by unfold fSw; omega))).tr F3, ?_, ?_, fun t ht => ⟨?_, ?_⟩, fun t ht => ?_⟩
  · rw [u2_n (by omega), u2_e]
  · rw [u2_n (by omega), u2_n (by omega), F2 31 3 (by omega), u2_e]
  · rw [hb3]; exact (k2 t (Nat.zero_le _) ht).1
  · rw [u2_n (by omega), u2_n (by omega)]; exact (k2 t (Nat.zero_le _) ht).2
  · rw [hb3, ← hb1 t]
    unfold hB
    rw [show T (31 + 1) t = _ from (k1 t (Or.inr ht)).1]
def fMa (a j : Nat) : Prop := (31 < a ∧ a < 42) ∨ (a = 31 ∧ (j = 3 ∨ j = 5 ∨ j = 6 ∨ j = 10 ∨ j = 14))
theorem geq_Ma {S T : St} (F : Fr fMa S T) : GEq S T := GEq.of F (fun a j q => by unfold fMa at q; omega)
theorem fM_Ma {a j : Nat} (h : fM a j) : fMa a j := by unfold fM fG rowP at h; unfold fMa; omega
theorem fSw_Ma {a j : Nat} (h : fSw a j) : fMa a j := by unfold fSw at h; unfold fMa; omega
theorem drop_cons {i x : Nat} : ∀ {R : List Nat}, R[i]? = some x → R.drop i = x :: R.drop (i + 1) := by
  induction i with
  | zero =>
    intro R h
    cases R with
    | nil => cases h
    | cons a l => simp at h; simp [h]
  | succ i ih =>
    intro R h
    cases R with
    | nil => cases h
    | cons a l => exact ih (R := l) (by simpa using h)
theorem s_m18 (w : Nat → Bool) : ∀ (n j i : Nat) (S : St) (R : List Nat) (W : Nat), GW S → MR S w R i → S 31 3 = nI W → j ≤ i → 81 - j < n →
    ∃ T, m_Mar_collectNow_L18 n S (nI j) = some T ∧ Fr (fun a j => fM a j ∨ fSw a j) S T ∧ T 31 10 = 0 ∧ T 31 3 = nI (W + lsum (wN S) ((clo (wk S w) (80 - i) i R).drop i) + sm (had1 S 31) (cN S)) ∧
    (∀ t, t < cN S → (hB T 31 t = true ↔ hB S 31 t = true ∧ ¬ (w t = true ∧ t ∉ clo (wk S w) (80 - i) i R)) ∧ T 35 t = 0) ∧ ∀ t, cN S ≤ t → hB T 31 t = hB S 31 t := by
  intro n
  induction n with
  | zero => intro j i S R W _ _ _ h1 h2; omega
  | succ n ih =>
    intro j i S R W hG hM hW h1 h2
    have h80 := hG.2.1
    have hlen := hM.1.len
    have hi := hM.2.2.1
    rw [m_Mar_collectNow_L18, if_neg hM.2.2.2.2.2, if_neg (by rw [show (80 : Int32) = nI 80 from rfl, n_lt (by omega) (by omega)]; omega), nI_1]
    by_cases hl : i < R.length
    · obtain ⟨x, hx⟩ : ∃ x, R[i]? = some x := ⟨R[i], List.getElem?_eq_getElem hl⟩
      obtain ⟨T, e, F, hM2, t3, -⟩ := s_mstep hG hM hx hW
      have g := geq_M F
      obtain ⟨U, e2, F2, k1, k2, k3, k4⟩ := ih (j + 1) (i + 1) T _ _ (hG.eq g) hM2 t3 (by omega) (by omega)
      have hbT := hB_M F
      have e3 : clo (wk S w) (80 - i) i R = clo (wk S w) (80 - (i + 1)) (i + 1) (addsL R (wk S w x)) := by
        rw [show 80 - i = (80 - (i + 1)) + 1 by omega, clo_s _ _ _ _ hx]
      have hx2 : (clo (wk S w) (80 - (i + 1)) (i + 1) (addsL R (wk S w x)))[i]? = some x := by
        obtain ⟨M1, m1⟩ := addsL_pre (l := wk S w x) R
        obtain ⟨M2, m2⟩ := clo_pre (wk S w) (80 - (i + 1)) (i + 1) (addsL R (wk S w x))
        rw [m2, m1, List.append_assoc, List.getElem?_append_left hl]; exact hx
      have hh1 : had1 T 31 = had1 S 31 := funext fun t => by unfold had1; rw [hbT]
      rw [wk_eq g, wN_eq g, hh1, g.c] at k2
      simp only [wk_eq g, g.c, hbT] at k3 k4
      rw [o1_e e, e3]
      refine ⟨U, e2, (F.mono (fun a j q => Or.inl q)).tr F2, k1, ?_, k3, k4⟩
      rw [k2, drop_cons hx2, lsum_c]
      congr 1; omega
    · have hno : R[i]? = none := List.getElem?_eq_none (by omega)
      obtain ⟨T, e, F, k1, k2, k3, k4⟩ := s_sweep hG hW
      have e1 : m_Mar_step S = some T := by
        unfold m_Mar_step
        rw [hM.2.1, hM.1.2.2.1, if_neg (by rw [n_lt (by omega) (by omega)]; exact hl), o1_e e]
      obtain ⟨m, rfl⟩ : ∃ m, n = m + 1 := ⟨n - 1, by omega⟩
      rw [o1_e e1, m_Mar_collectNow_L18, if_pos k1, clo_n _ _ _ _ hno, List.drop_of_length_le (by omega), lsum_n, Nat.add_zero]
      refine ⟨T, rfl, F.mono (fun a j q => Or.inr q), k1, k2, fun t ht => ⟨?_, (k3 t ht).2⟩, k4⟩
      rw [(k3 t ht).1, ne_eq, hM.2.2.2.1 t (by omega)]
/-! foreseeing -/
def WC (S : St) (w : Nat → Bool) : Prop := ∀ t, t < 80 → (clO S (some t) = 0 ↔ w t = true)
theorem geq_39 {S T : St} (F : Fr (rowP 39) S T) : GEq S T := GEq.row F (by omega)
theorem hB_39 {S T : St} (F : Fr (rowP 39) S T) (t : Nat) : hB T 31 t = hB S 31 t := hB_eq (fun j => F _ _ (by unfold rowP; omega)) t
theorem clO_39 {S T : St} (F : Fr (rowP 39) S T) (o : Option Nat) : clO T o = clO S o := by
  cases o with
  | none => rfl
  | some t => rw [clO_s, clO_s, hB_39 F, (geq_39 F).c, F 35 t (by unfold rowP; omega)]
theorem WC.fr {S T : St} {w : Nat → Bool} (h : WC S w) (F : Fr (rowP 39) S T) : WC T w := fun t ht => by rw [clO_39 F]; exact h t ht
theorem s_fw {S : St} {w : Nat → Bool} {L : List Nat} (hG : GW S) (hR : RowIs S 39 L) (hW : WC S w) (o : Option Nat) (ho : B80 o) : ∃ T, m_Mar_foreseeIfWhite S (oI o) = some T ∧ Fr (rowP 39) S T ∧ RowIs T 39 (addL L (wfo w o)) := by
  unfold m_Mar_foreseeIfWhite
  rw [o1_e (s_colourOf hG o ho)]
  by_cases h : clO S o = 0
  · obtain ⟨T, e, F, R⟩ := s_add hR o ho
    rw [if_pos h, o1_e e]
    refine ⟨T, rfl, F, ?_⟩
    have : wfo w o = o := by
      cases o with
      | none => rfl
      | some u => exact wfo_e.mpr ⟨rfl, (hW u (ho u rfl)).mp h⟩
    rw [this]; exact R
  · rw [if_neg h]
    refine ⟨S, rfl, Fr.rfl', ?_⟩
    have : wfo w o = none := by
      cases o with
      | none => rfl
      | some u => rw [wfo_s, if_neg (fun z => h ((hW u (ho u rfl)).mpr z))]
    rw [this]; exact hR
theorem s_fwF {w : Nat → Bool} {x : Nat} (hx : x < 80) : ∀ (n i : Nat) (S : St) (L : List Nat), GW S → RowIs S 39 L → WC S w → i ≤ 3 → 3 - i < n →
    ∃ T, m_Mar_foresee_L114 n S (nI x) (nI i) = some T ∧ Fr (rowP 39) S T ∧ RowIs T 39 (addsL L ((kidsF S (some x) i).map (wfo w))) := by
  intro n
  induction n with
  | zero => intro i S R _ _ _ h1 h2; omega
  | succ n ih =>
    intro i S R hG hR hW h1 h2
    have hf := fO_le hG (some x)
    rw [m_Mar_foresee_L114, ← oI_s x, o1_e (s_fieldsOf hG (some x) (b_s hx))]
    by_cases hi : fO S (some x) ≤ i
    · rw [if_pos (by rw [n_le (by omega) (by omega)]; exact hi), kidsF_end hi]
      exact ⟨S, rfl, Fr.rfl', hR⟩
    · rw [if_neg (by rw [n_le (by omega) (by omega)]; exact hi), o1_e (s_nameOf hG (some x) (b_s hx) i (by omega))]
      obtain ⟨T, e, F, R1⟩ := s_fw hG hR hW (nmQ S (some x) i) (fun u hu => Nat.lt_of_lt_of_le (hG.b_nq _ i u hu) hG.2.1)
      rw [o1_e e, nI_1, oI_s, kidsF_cons (by omega), List.map_cons]
      have g := geq_39 F
      obtain ⟨U, e2, F2, R2⟩ := ih (i + 1) T _ (hG.eq g) R1 (hW.fr F) (by omega) (by omega)
      rw [kidsF_eq g] at R2
      exact ⟨U, e2, F.tr F2, R2⟩
theorem s_fwR {w : Nat → Bool} : ∀ (n i : Nat) (S : St) (L : List Nat), GW S → RowIs S 39 L → WC S w → S 31 10 = 0 → i ≤ 6 → 6 - i < n →
    ∃ T, m_Mar_foresee_L53 n S (nI i) = some T ∧ Fr (rowP 39) S T ∧ RowIs T 39 (addsL L ((rtsF S (-1) i).map (wfo w))) := by
  intro n
  induction n with
  | zero => intro i S R _ _ _ _ h1 h2; omega
  | succ n ih =>
    intro i S R hG hR hW h10 h1 h2
    rw [m_Mar_foresee_L53, if_pos h10]
    by_cases hi : i = 6
    · subst hi
      exact ⟨S, if_pos (by decide), Fr.rfl', hR⟩
    · rw [if_neg (by rw [show (6 : Int32) = nI 6 from rfl, n_le (by omega) (by omega)]; omega), o1_e (s_rootAt hG (by omega))]
      obtain ⟨T, e, F, R1⟩ := s_fw hG hR hW (rtO S i) (hG.b_rt (by omega))
      rw [o1_e e, nI_1, rtsF_cons (by omega), if_neg (m1_ne (by omega)), List.map_cons]
      have g := geq_39 F
      obtain ⟨U, e2, F2, R2⟩ := ih (i + 1) T _ (hG.eq g) R1 (hW.fr F) ((F 31 10 (by unfold rowP; omega)).trans h10) (by omega) (by omega)
      rw [rtsF_eq g] at R2
      exact ⟨U, e2, F.tr F2, R2⟩
theorem s_f12 (R : List Nat) : ∀ (n i : Nat) (S : St) (L : List Nat), RowIs S 36 R → RowIs S 39 L → S 31 10 ≠ 0 → i ≤ R.length → R.length - i < n →
    ∃ T, m_Mar_foresee_L12 n S (nI i) = some T ∧ Fr (rowP 39) S T ∧ RowIs T 39 (addsL L ((R.drop i).map some)) := by
  intro n
  induction n with
  | zero => intro i S L _ _ _ h1 h2; omega
  | succ n ih =>
    intro i S L hR hL h10 h1 h2
    have hlen := hR.len
    rw [m_Mar_foresee_L12, if_neg h10, hR.2.2.1]
    by_cases hi : R.length ≤ i
    · rw [if_pos (by rw [n_le (by omega) (by omega)]; exact hi), List.drop_of_length_le hi]
      exact ⟨S, rfl, Fr.rfl', hL⟩
    · obtain ⟨x, hx⟩ : ∃ x, R[i]? = some x := ⟨R[i]'(by omega), List.getElem?_eq_getElem (by omega)⟩
      obtain ⟨T, e, F, R1⟩ := s_add hL (some x) (b_s (hR.2.1 x (List.mem_of_getElem? hx)))
      rw [if_neg (by rw [n_le (by omega) (by omega)]; exact hi), o1_e (s_get hR i (by omega)), hx, o1_e e, nI_1, drop_cons hx, List.map_cons]
      obtain ⟨U, e2, F2, R2⟩ := ih (i + 1) T _ (hR.fr F (fun a j q z => by unfold rowP at q z; omega)) R1 (by rw [F 31 10 (by unfold rowP; omega)]; exact h10) (by omega) (by omega)
      exact ⟨U, e2, F.tr F2, R2⟩
theorem s_f86 {w : Nat → Bool} : ∀ (n i : Nat) (S : St) (L : List Nat), GW S → RowIs S 39 L → WC S w → i ≤ 80 → 80 - i < n →
    ∃ T, m_Mar_foresee_L86 n S (nI i) = some T ∧ Fr (rowP 39) S T ∧ RowIs T 39 (clo (wk S w) (80 - i) i L) := by
  intro n
  induction n with
  | zero => intro i S L _ _ _ h1 h2; omega
  | succ n ih =>
    intro i S L hG hR hW h1 h2
    have hlen := hR.len
    rw [m_Mar_foresee_L86, hR.2.2.1]
    by_cases hi : L.length ≤ i
    · rw [if_pos (by rw [n_le (by omega) (by omega)]; exact hi), clo_n _ _ _ _ (List.getElem?_eq_none hi)]
      exact ⟨S, rfl, Fr.rfl', hR⟩
    · obtain ⟨x, hx⟩ : ∃ x, L[i]? = some x := ⟨L[i]'(by omega), List.getElem?_eq_getElem (by omega)⟩
      rw [if_neg (by rw [n_le (by omega) (by omega)]; exact hi), if_neg (by rw [show (80 : Int32) = nI 80 from rfl, n_le (by omega) (by omega)]; omega), o1_e (s_get hR i (by omega)), hx, oI_s]
      obtain ⟨T, e, F, R1⟩ := s_fwF (w := w) (hR.2.1 x (List.mem_of_getElem? hx)) 200 0 S L hG hR hW (by omega) (by omega)
      have g := geq_39 F
      obtain ⟨U, e2, F2, R2⟩ := ih (i + 1) T _ (hG.eq g) R1 (hW.fr F) (by omega) (by omega)
      rw [o1_e (show m_Mar_foresee_L114 200 S (nI x) 0 = some T from e), nI_1]
      refine ⟨U, e2, F.tr F2, ?_⟩
      rw [show 80 - i = (80 - (i + 1)) + 1 by omega, clo_s _ _ _ _ hx]
      rw [wk_eq g] at R2
      exact R2
theorem addsL_some : ∀ (l L : List Nat), (L ++ l).Nodup → addsL L (l.map some) = L ++ l := by
  intro l
  induction l with
  | nil => intro L _; simp [addsL]
  | cons x l ih =>
    intro L h
    have hx : x ∉ L := fun q => by
      rw [List.nodup_append] at h
      exact h.2.2 x q x List.mem_cons_self rfl
    rw [List.map_cons]
    show addsL (addL L (some x)) (l.map some) = _
    rw [addL_s, if_neg hx, ih (L ++ [x]) (by rw [List.append_assoc]; exact h), List.append_assoc]; rfl
/-- where the steps go on from -/
def F0is (S : St) (w : Nat → Bool) (F0 : List Nat) : Prop := (S 31 10 = 0 → F0 = addsL [] (rtw S w)) ∧ (S 31 10 ≠ 0 → ∃ R i, RowIs S 36 R ∧ S 31 14 = nI i ∧ i ≤ R.length ∧ F0 = R.drop i)
theorem s_foresee {S : St} {w : Nat → Bool} {F0 : List Nat} (hG : GW S) (hW : WC S w) (hF : F0is S w F0) : ∃ T, m_Mar_foresee S = some T ∧ Fr (rowP 39) S T ∧ RowIs T 39 (clo (wk S w) 80 0 F0) := by
  obtain ⟨T0, e0, Fr0, R0⟩ := s_empty 39 S
  have g0 := geq_39 Fr0
  have z14 : T0 31 14 = S 31 14 := Fr0 31 14 (by unfold rowP; omega)
  have z10 : T0 31 10 = S 31 10 := Fr0 31 10 (by unfold rowP; omega)
  have fin : ∀ T1 T2, m_Mar_foresee_L12 200 T0 (T0 31 14) = some T1 → m_Mar_foresee_L53 200 T1 0 = some T2 → Fr (rowP 39) S T2 → RowIs T2 39 F0 → ∃ T, m_Mar_foresee S = some T ∧ Fr (rowP 39) S T ∧ RowIs T 39 (clo (wk S w) 80 0 F0) := by
    intro T1 T2 e1 e2 F2 R2
    have g2 := geq_39 F2
    obtain ⟨T, e, F, R⟩ := s_f86 (w := w) 200 0 T2 F0 (hG.eq g2) R2 (hW.fr F2) (by omega) (by omega)
    rw [wk_eq g2] at R
    unfold m_Mar_foresee
    rw [o1_e e0, o1_e e1, o1_e e2, o1_e (show m_Mar_foresee_L86 200 T2 0 = some T from e)]
    exact ⟨T, rfl, F2.tr F, R⟩
  by_cases h10 : S 31 10 = 0
  · obtain ⟨T2, e2, F2, R2⟩ := s_fwR (w := w) 200 0 T0 [] (hG.eq g0) R0 (hW.fr Fr0) (z10.trans h10) (by omega) (by omega)
    refine fin T0 T2 (by rw [m_Mar_foresee_L12]; exact if_pos (z10.trans h10)) e2 (Fr0.tr F2) ?_
    rw [hF.1 h10]
    unfold rtw
    rw [rtsF_eq g0] at R2
    exact R2
  · obtain ⟨R, i, hR, h14, hi, e⟩ := hF.2 h10
    have hlen := hR.len
    obtain ⟨T1, e1, F1, R1⟩ := s_f12 R 200 i T0 [] (hR.fr Fr0 (fun a j q z => by unfold rowP at q z; omega)) R0 (by rw [z10]; exact h10) hi (by omega)
    refine fin T1 T1 (by rw [z14, h14]; exact e1) (by rw [m_Mar_foresee_L53]; exact if_neg (by rw [F1 31 10 (by unfold rowP; omega), z10]; exact h10)) (Fr0.tr F1) ?_
    rw [addsL_some _ _ (by rw [List.nil_append]; exact hR.1.sublist (List.drop_sublist _ _)), List.nil_append] at R1
    rw [e]; exact R1
def goF (w : Nat → Bool) (L : List Nat) : Nat → Nat := fun t => if w t = true ∧ t ∉ L then 1 else 0
theorem s_ctg {w : Nat → Bool} {L : List Nat} : ∀ (n i : Nat) (S : St), GW S → RowIs S 39 L → WC S w → i ≤ cN S → cN S - i < n → m_Mar_countToGo_L8 n S (nI (sm (goF w L) i)) (nI i) = some (nI (sm (goF w L) (cN S))) := by
  intro n
  induction n with
  | zero => intro i S _ _ _ h1 h2; omega
  | succ n ih =>
    intro i S hG hR hW h1 h2
    have h80 := hG.2.1
    rw [m_Mar_countToGo_L8, hG.1]
    by_cases hi : cN S ≤ i
    · rw [if_pos (by rw [n_le (by omega) (by omega)]; exact hi), show i = cN S by omega]
    · rw [if_neg (by rw [n_le (by omega) (by omega)]; exact hi), ← oI_s i, o1_e (s_colourOf hG (some i) (b_s (by omega))), oI_s, nI_1 i]
      have := ih (i + 1) S hG hR hW (by omega) (by omega)
      rw [sm_s] at this
      unfold goF at this ⊢
      by_cases h : clO S (some i) = 0
      · have hw := (hW i (by omega)).mp h
        rw [if_pos h, ← oI_s i, o1_e (s_holds hR (some i) (b_s (by omega)))]
        by_cases hl : i ∈ L
        · rw [if_neg (fun z => z.2 hl)] at this
          rw [if_neg (by dsimp only; rw [decide_eq_true hl]; decide), show (0 : Int32) = nI 0 from rfl, nI_add]
          exact this
        · rw [if_pos ⟨hw, hl⟩] at this
          rw [if_pos (by dsimp only; rw [decide_eq_false hl]; rfl), nI_1]
          exact this
      · have hw : ¬ w i = true := fun z => h ((hW i (by omega)).mpr z)
        rw [if_neg (fun z => hw z.1)] at this
        rw [if_neg h, show (0 : Int32) = nI 0 from rfl, nI_add]
        exact this
theorem s_wtd {L : List Nat} : ∀ (n i v : Nat) (S : St), GW S → RowIs S 39 L → (∀ t ∈ L, t < cN S) → i ≤ L.length → L.length - i < n → m_Mar_workToDo_L11 n S (nI v) (nI i) = some (nI (v + lsum (wN S) (L.drop i))) := by
  intro n
  induction n with
  | zero => intro i v S _ _ _ h1 h2; omega
  | succ n ih =>
    intro i v S hG hR hL h1 h2
    have hlen := hR.len
    rw [m_Mar_workToDo_L11, hR.2.2.1]
    by_cases hi : L.length ≤ i
    · rw [if_pos (by rw [n_le (by omega) (by omega)]; exact hi), List.drop_of_length_le hi]; rfl
    · obtain ⟨x, hx⟩ : ∃ x, L[i]? = some x := ⟨L[i]'(by omega), List.getElem?_eq_getElem (by omega)⟩
      rw [if_neg (by rw [n_le (by omega) (by omega)]; exact hi), o1_e (s_get hR i (by omega)), hx, oI_s, o1_e (s_wordsN hG (hL x (List.mem_of_getElem? hx))), nI_1, nI_add, ih (i + 1) _ S hG hR hL (by omega) (by omega), drop_cons hx, lsum_c, Nat.add_assoc]
