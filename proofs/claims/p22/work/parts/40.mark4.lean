/-! store 2: collecting as foreseen -/
theorem clo_fuel (K : Nat → List (Option Nat)) (m : Nat) (hK : ∀ t u, some u ∈ K t → u < m) : ∀ (n i : Nat) (L : List Nat), L.Nodup → (∀ t ∈ L, t < m) → m ≤ n + i → ∀ k, clo K (n + k) i L = clo K n i L := by
  intro n
  induction n with
  | zero =>
    intro i L hn hm hi k
    have hl := nd_len m L hn hm
    have hno : L[i]? = none := List.getElem?_eq_none (by omega)
    rw [clo_n _ _ _ _ hno, clo_n _ _ _ _ hno]
  | succ n ih =>
    intro i L hn hm hi k
    cases h : L[i]? with
    | none => rw [clo_n _ _ _ _ h, clo_n _ _ _ _ h]
    | some t =>
      rw [show n + 1 + k = (n + k) + 1 by omega, clo_s _ _ _ _ h, clo_s _ _ _ _ h]
      refine ih (i + 1) _ (addsL_nodup hn) (fun u hu => ?_) (by omega) k
      rcases mem_addsL.mp hu with q | q
      · exact hm u q
      · exact hK t u q
theorem addL_app {D : List Nat} {o : Option Nat} (h : ∀ u, o = some u → u ∉ D) (F : List Nat) : addL (D ++ F) o = D ++ addL F o := by
  cases o with
  | none => rfl
  | some u =>
    have hu := h u rfl
    rw [addL_s, addL_s]
    by_cases q : u ∈ F
    · rw [if_pos q, if_pos (List.mem_append_right _ q)]
    · rw [if_neg q, if_neg (fun z => (List.mem_append.mp z).elim hu q), List.append_assoc]
theorem addsL_app {D : List Nat} : ∀ {l : List (Option Nat)}, (∀ u, some u ∈ l → u ∉ D) → ∀ F, addsL (D ++ F) l = D ++ addsL F l := by
  intro l
  induction l with
  | nil => intro _ F; rfl
  | cons o l ih =>
    intro h F
    show addsL (addL (D ++ F) o) l = D ++ addsL (addL F o) l
    rw [addL_app (fun u e => h u (e ▸ List.mem_cons_self)), ih (fun u hu => h u (List.mem_cons_of_mem _ hu))]
theorem clo_app (K : Nat → List (Option Nat)) (D : List Nat) (h : ∀ t u, some u ∈ K t → u ∉ D) : ∀ (n i : Nat) (Q : List Nat), clo K n (D.length + i) (D ++ Q) = D ++ clo K n i Q := by
  intro n
  induction n with
  | zero => intro i Q; rfl
  | succ n ih =>
    intro i Q
    have e : (D ++ Q)[D.length + i]? = Q[i]? := by
      rw [List.getElem?_append_right (Nat.le_add_right _ _), Nat.add_sub_cancel_left]
    cases hq : Q[i]? with
    | none => rw [clo_n _ _ _ _ hq, clo_n _ _ _ _ (e.trans hq)]
    | some t => rw [clo_s _ _ _ _ hq, clo_s _ _ _ _ (e.trans hq), addsL_app (h t), Nat.add_assoc, ih]
theorem sm_pos {f : Nat → Nat} {n : Nat} (h : ∀ i, i < n → f i ≤ 1) : sm f n ≤ n := by
  have := sm_le (f := f) (c := 1) (n := n) h
  omega
theorem s_maColl0 {S U : St} {w : Nat → Bool} {R : List Nat} {i W : Nat} (hG : GW S) (g : GEq S U) (hb : ∀ t, hB U 31 t = hB S 31 t) (hR : RH S 31) (hM : MR U w R i) (hQ : MaQ U R i nE1 nE2) (hW : U 31 3 = nI W)
    (hD : ∀ t ∈ R.take i, ¬ w t = true) (hw : ∀ t, t < 80 → w t = true → hB S 31 t = true) :
    ∃ T, m_Mar_collectNow_L18 200 U 0 = some T ∧ Fr fN' U T ∧ MaG T ∧ T 31 10 = 0 ∧ (∀ t, hB T 31 t = true → hB S 31 t = true) ∧ T 31 3 = nI (W + (sm (had1 S 31) (cN S) + lsum (wN S) (clo (wk S w) 80 0 (R.drop i)))) ∧
      sm (had1 T 31) (cN S) + sm (goF w (clo (wk S w) 80 0 (R.drop i))) (cN S) = sm (had1 S 31) (cN S) ∧ sm (hadU T 31) (cN S) + sm (goF w (clo (wk S w) 80 0 (R.drop i))) (cN S) = sm (hadU S 31) (cN S) ∧
      (∀ t, t < cN S → (hB T 31 t = true ↔ hB S 31 t = true ∧ ¬ (w t = true ∧ t ∉ clo (wk S w) 80 0 (R.drop i)))) := by
  have h80 := hG.2.1
  obtain ⟨T, e, F, k1, k2, k3, k4⟩ := s_m18 w 200 0 i U R W (hG.eq g) hM hW (Nat.zero_le _) (by omega)
  have hlen := hM.1.len
  have hi := hM.2.2.1
  have hKm : ∀ t u, some u ∈ wk S w t → u < 80 := fun t u hu => Nat.lt_of_lt_of_le (kids_lt hG (mem_wk.mp hu).1) h80
  have hlt : (R.take i).length = i := by rw [List.length_take]; omega
  have eRF : clo (wk U w) (80 - i) i R = R.take i ++ clo (wk S w) 80 0 (R.drop i) := by
    rw [wk_eq g, ← clo_fuel (wk S w) 80 hKm (80 - i) i R hM.1.1 hM.1.2.1 (by omega) i, show 80 - i + i = 80 by omega]
    have := clo_app (wk S w) (R.take i) (fun t u hu hx => hD u hx (mem_wk.mp hu).2) 80 0 (R.drop i)
    rw [List.take_append_drop, hlt, Nat.add_zero] at this
    exact this
  rw [eRF] at k2 k3
  have hdrop : (R.take i ++ clo (wk S w) 80 0 (R.drop i)).drop i = clo (wk S w) 80 0 (R.drop i) := by
    have := List.drop_left (l₁ := R.take i) (l₂ := clo (wk S w) 80 0 (R.drop i))
    rw [hlt] at this
    exact this
  rw [hdrop] at k2
  generalize hFF : clo (wk S w) 80 0 (R.drop i) = FF at *
  have hh1 : had1 U 31 = had1 S 31 := funext fun t => by unfold had1; rw [hb]
  rw [wN_eq g, hh1, g.c] at k2
  simp only [g.c, hb] at k3 k4
  have gT := geq_N F
  have hin : ∀ t, w t = true → (t ∉ R.take i ++ FF ↔ t ∉ FF) := fun t hwt => by
    constructor
    · exact fun z q => z (List.mem_append_right _ q)
    · exact fun z q => (List.mem_append.mp q).elim (fun y => hD t y hwt) z
  have k5 : ∀ t, t < cN S → (hB T 31 t = true ↔ hB S 31 t = true ∧ ¬ (w t = true ∧ t ∉ FF)) := fun t ht => by
    rw [(k3 t ht).1]
    constructor
    · rintro ⟨a, b⟩
      exact ⟨a, fun z => b ⟨z.1, (hin t z.1).mpr z.2⟩⟩
    · rintro ⟨a, b⟩
      exact ⟨a, fun z => b ⟨z.1, (hin t z.1).mp z.2⟩⟩
  obtain ⟨qR, q14, qi, qm, qc, qr, qk⟩ := hQ
  have nzR : ∀ t, t < 80 → U 35 t ≠ 0 → w t = true → t ∈ R := fun t ht h0 hwt => by
    by_cases q : t ∈ R
    · exact q
    · exact absurd (clO_0.mp ((hM.2.2.2.1 t ht).mpr ⟨hwt, q⟩)).2.2 h0
  have hsub : ∀ t, t ∈ R → t ∈ R.take i ++ FF := fun t ht => by
    rw [← hFF]
    obtain ⟨M2, m2⟩ := clo_pre (wk S w) 80 0 (R.drop i)
    rw [m2, ← List.append_assoc, List.take_append_drop]
    exact List.mem_append_left _ ht
  have hcl : ∀ t, t ∈ R.take i ++ FF → ∀ u, some u ∈ wk S w t → u ∈ R.take i ++ FF := by
    rw [← eRF, wk_eq g]
    refine clo_closed (wk S w) 80 hKm (80 - i) i R hM.1.1 hM.1.2.1 (by omega) (fun j hj t htj u hu => ?_)
    obtain ⟨hu1, hu2⟩ := mem_wk.mp hu
    have htR := List.mem_of_getElem? htj
    obtain ⟨a, b, c⟩ := qm t htR
    have hb2 : U 35 t = 2 := by
      rcases qc t a b with z | z | z
      · exact absurd z c
      · exact z
      · exfalso
        have hn := hM.1.1
        rw [← List.take_append_drop i R, List.nodup_append] at hn
        have : t ∈ R.take i := List.mem_of_getElem? (by rw [List.getElem?_take_of_lt hj]; exact htj)
        exact hn.2.2 t this t z rfl
    have hu8 : u < 80 := hKm t u hu
    exact nzR u hu8 (qk t a b hb2 u (by rw [kids_eq g]; exact hu1) (by rw [hb]; exact hw u hu8 hu2) (fun z => z)) hu2
  have hreach : ∀ t ∈ rcL S, t ∈ rcL S ∧ (w t = true → t ∈ R.take i ++ FF) := by
    refine rc_min _ (fun r t hr h1 => ?_) (fun t ht u hu => ?_)
    · have h2 := rc_root hr h1
      refine ⟨h2, fun hwt => hsub t (nzR t (hG.b_rt hr t h1) (qr r t hr (by rw [g.r]; exact h1) (by rw [hb]; exact hR t h2) (fun z => z)) hwt)⟩
    · have h2 := rc_kid hG ht.1 hu
      refine ⟨h2, fun hwu => ?_⟩
      by_cases q : t ∈ R.take i ++ FF
      · exact hcl t q u (mem_wk.mpr ⟨hu, hwu⟩)
      · have htc := rc_lt hG t ht.1
        have hnw : ¬ w t = true := fun z => q (ht.2 z)
        have h0 : U 35 t ≠ 0 := fun z => hnw ((hM.2.2.2.1 t (by omega)).mp (clO_0.mpr ⟨by rw [hb]; exact hR t ht.1, by rw [g.c]; exact htc, z⟩)).1
        have hb2 : U 35 t = 2 := by
          rcases qc t (by rw [g.c]; exact htc) (by rw [hb]; exact hR t ht.1) with z | z | z
          · exact absurd z h0
          · exact z
          · exact absurd (hsub t (List.mem_of_mem_drop z)) q
        have hu8 : u < 80 := Nat.lt_of_lt_of_le (kids_lt hG hu) h80
        exact hsub u (nzR u hu8 (qk t (by rw [g.c]; exact htc) (by rw [hb]; exact hR t ht.1) hb2 u (by rw [kids_eq g]; exact hu) (by rw [hb]; exact hR u h2) (fun z => z)) hwu)
  have hreach2 : ∀ t ∈ rcL S, ¬ (w t = true ∧ t ∉ FF) := fun t ht z => (hin t z.1).mpr z.2 ((hreach t ht).2 z.1)
  have gST := g.trans gT
  have hshr : ∀ t, hB T 31 t = true → hB S 31 t = true := fun t ht => by
    by_cases q : t < cN S
    · exact ((k5 t q).mp ht).1
    · rw [← k4 t (by omega)]; exact ht
  refine ⟨T, e, F, ⟨fun t ht => ?_, fun _ t ht _ => ?_, fun z => absurd k1 z⟩, k1, hshr, ?_, ?_, ?_, k5⟩
  · rw [rcL_eq gST] at ht
    exact (k5 t (rc_lt hG t ht)).mpr ⟨hR t ht, hreach2 t ht⟩
  · rw [gST.c] at ht
    exact (k3 t ht).2
  · rw [k2]; congr 1; omega
  · rw [← sm_add]
    refine sm_congr (fun t ht => ?_)
    unfold had1 goF
    by_cases hg : w t = true ∧ t ∉ FF
    · rw [if_pos hg, if_neg (fun z => ((k5 t ht).mp z).2 hg), if_pos (hw t (by omega) hg.1)]
    · rw [if_neg hg]
      by_cases hh : hB S 31 t = true
      · rw [if_pos ((k5 t ht).mpr ⟨hh, hg⟩), if_pos hh]
      · rw [if_neg (fun z => hh (hshr t z)), if_neg hh]
  · rw [← sm_add]
    refine sm_congr (fun t ht => ?_)
    unfold hadU goF
    rw [rcL_eq gST]
    by_cases hr : t ∈ rcL S
    · rw [if_neg (fun z => z.2 hr), if_neg (hreach2 t hr), if_neg (fun z => z.2 hr)]
    · by_cases hg : w t = true ∧ t ∉ FF
      · rw [if_pos hg, if_neg (fun z => ((k5 t ht).mp z.1).2 hg), if_pos ⟨hw t (by omega) hg.1, hr⟩]
      · rw [if_neg hg]
        by_cases hh : hB S 31 t = true
        · rw [if_pos ⟨(k5 t ht).mpr ⟨hh, hg⟩, hr⟩, if_pos ⟨hh, hr⟩]
        · rw [if_neg (fun z => hh (hshr t z.1)), if_neg (fun z => hh z.1)]
theorem s_maCollect {S : St} {W : Nat} (hG : GW S) (hM : MaG S) (hW : S 31 3 = nI W) :
    ∃ F0, F0is S (wc S) F0 ∧ (∀ t ∈ clo (wk S (wc S)) 80 0 F0, t < cN S) ∧ (clo (wk S (wc S)) 80 0 F0).Nodup ∧
      ∃ T, m_Mar_collectNow S = some (nI (sm (goF (wc S) (clo (wk S (wc S)) 80 0 F0)) (cN S)), T) ∧ Fr fN' S T ∧ MaG T ∧ T 31 10 = 0 ∧ (∀ t, hB T 31 t = true → hB S 31 t = true) ∧
        T 31 3 = nI (W + (sm (had1 S 31) (cN S) + lsum (wN S) (clo (wk S (wc S)) 80 0 F0))) ∧ sm (hadU T 31) (cN S) + sm (goF (wc S) (clo (wk S (wc S)) 80 0 F0)) (cN S) = sm (hadU S 31) (cN S) ∧
        (S 31 10 = 0 → ∀ t, t < cN S → hB T 31 t = true → t ∈ rcL S) := by
  have h80 := hG.2.1
  have hw : ∀ t, t < 80 → wc S t = true → hB S 31 t = true := fun t ht h => (clO_0.mp ((WC_wc S t ht).mpr h)).1
  have low : ∀ F0 : List Nat, (∀ t ∈ F0, t < cN S) → ∀ t ∈ clo (wk S (wc S)) 80 0 F0, t < cN S := fun F0 h =>
    clo_min _ (fun t => t < cN S) (fun t _ u hu => kids_lt hG (mem_wk.mp hu).1) 80 0 F0 h
  by_cases h10 : S 31 10 = 0
  · obtain ⟨U, e, F, hMR, hQ⟩ := s_begin hG (WC_wc S) (hM.2.1 h10)
    have g : GEq S U := GEq.of F (fun a j q => by unfold fG rowP at q; omega)
    have hb : ∀ t, hB U 31 t = hB S 31 t := fun t => hB_eq (fun j => F _ _ (by unfold fG rowP; omega)) t
    obtain ⟨T, e2, F2, hT, t10, hsh, t3, c1, c2, c3⟩ := s_maColl0 hG g hb hM.1 hMR hQ ((F 31 3 (by unfold fG rowP; omega)).trans hW) (fun t ht => by cases ht) hw
    rw [List.drop_zero] at t3 c1 c2 c3
    have hF0 : ∀ t ∈ addsL [] (rtw S (wc S)), ∃ r, r < 6 ∧ rtO S r = some t := fun t ht => (mem_rtw.mp ((mem_addsL.mp ht).resolve_left List.not_mem_nil)).1
    have gT := geq_N F2
    refine ⟨addsL [] (rtw S (wc S)), ⟨fun _ => rfl, fun q => absurd h10 q⟩, low _ (fun t ht => ?_), clo_nodup _ _ _ _ (addsL_nodup List.nodup_nil), T, ?_, ?_, hT, t10, hsh, t3, c2, fun _ t ht hh => ?_⟩
    · obtain ⟨r, a, b⟩ := hF0 t ht
      exact (hG.2.2.2 r a).2 t b
    · unfold m_Mar_collectNow
      rw [o1_e (s_countHad 31 1 hG), if_pos h10, o1_e e, o1_e e2, o1_e (s_countHad 31 1 ((hG.eq g).eq gT)), gT.c, g.c, ← c1, pk_sub (by omega), Nat.add_sub_cancel_left]
    · exact (F.mono (fun a j q => q.elim (fun z => z.2.elim (fun y => Or.inr (Or.inr (Or.inr ⟨z.1, Or.inr (Or.inr y)⟩))) (fun y => Or.inl (Or.inl ⟨z.1, Or.inr y⟩))) (fun z => Or.inl (Or.inr z)))).tr F2
    · obtain ⟨h1, h2⟩ := (c3 t ht).mp hh
      have hwt : wc S t = true := (WC_wc S t (by omega)).mp (clO_0.mpr ⟨h1, ht, hM.2.1 h10 t ht h1⟩)
      have : t ∈ clo (wk S (wc S)) 80 0 (addsL [] (rtw S (wc S))) := by
        by_cases q : t ∈ clo (wk S (wc S)) 80 0 (addsL [] (rtw S (wc S)))
        · exact q
        · exact absurd ⟨hwt, q⟩ h2
      exact clo_min _ (fun t => t ∈ rcL S) (fun t ht u hu => rc_kid hG ht (mem_wk.mp hu).1) 80 0 _ (fun t ht => by
        obtain ⟨r, a, b⟩ := hF0 t ht
        exact rc_root a b) t this
  · obtain ⟨R, i, hQ⟩ := hM.2.2 h10
    obtain ⟨T, e2, F2, hT, t10, hsh, t3, c1, c2, c3⟩ := s_maColl0 hG GEq.rfl' (fun _ => rfl) hM.1 (hQ.MR (WC_wc S) h10) hQ hW (fun t ht hwt => (hQ.2.2.2.1 t (List.mem_of_mem_take ht)).2.2 (clO_0.mp ((WC_wc S t (hQ.1.2.1 t (List.mem_of_mem_take ht))).mpr hwt)).2.2) hw
    have gT := geq_N F2
    refine ⟨R.drop i, ⟨fun q => absurd q h10, fun _ => ⟨R, i, hQ.1, hQ.2.1, hQ.2.2.1, rfl⟩⟩, low _ (fun t ht => (hQ.2.2.2.1 t (List.mem_of_mem_drop ht)).1), clo_nodup _ _ _ _ (hQ.1.1.sublist (List.drop_sublist _ _)), T, ?_, F2, hT, t10, hsh, t3, c2, fun q => absurd q h10⟩
    unfold m_Mar_collectNow
    rw [o1_e (s_countHad 31 1 hG), if_neg h10, o1_e e2, o1_e (s_countHad 31 1 (hG.eq gT)), gT.c, ← c1, pk_sub (by omega), Nat.add_sub_cancel_left]
/-- what would go, and what work it would be: the same where nothing but scratch differs -/
theorem s_maWould {S T : St} {F0 : List Nat} (hG : GW S) (e : MEq S T) (hF : F0is S (wc S) F0) (hl : ∀ t ∈ clo (wk S (wc S)) 80 0 F0, t < cN S) :
    (∃ T', m_Mar_countToGo T = some (nI (sm (goF (wc S) (clo (wk S (wc S)) 80 0 F0)) (cN S)), T') ∧ Fr (rowP 39) T T') ∧
    ∃ T', m_Mar_workToDo T = some (nI (sm (had1 S 31) (cN S) + lsum (wN S) (clo (wk S (wc S)) 80 0 F0)), T') ∧ Fr (rowP 39) T T' := by
  have h80 := hG.2.1
  have hGT := hG.eq e.1
  obtain ⟨T1, e1, F1, R1⟩ := s_foresee hGT ((WC_wc S).eq e) (hF.eq e)
  rw [wk_eq e.1] at R1
  have g1 := geq_39 F1
  have hG1 := hGT.eq g1
  have gg := e.1.trans g1
  have hlen := R1.len
  refine ⟨⟨T1, ?_, F1⟩, T1, ?_, F1⟩
  · unfold m_Mar_countToGo
    rw [o1_e e1, o1_e (show m_Mar_countToGo_L8 200 T1 0 0 = _ from s_ctg 200 0 T1 hG1 R1 (((WC_wc S).eq e).fr F1) (Nat.zero_le _) (by rw [gg.c]; omega)), gg.c]
  · have hh : had1 T1 31 = had1 S 31 := funext fun t => by unfold had1; rw [hB_39 F1, e.hb]
    unfold m_Mar_workToDo
    rw [o1_e e1, o1_e (s_countHad 31 1 hG1), hh, gg.c, o1_e (show m_Mar_workToDo_L11 200 T1 _ 0 = _ from s_wtd 200 0 _ T1 hG1 R1 (fun t ht => by rw [gg.c]; exact hl t ht) (Nat.zero_le _) (by omega)), List.drop_zero, wN_eq gg]
