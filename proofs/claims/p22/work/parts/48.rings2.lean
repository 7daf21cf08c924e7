/-! store 3: rings go -/
theorem s_lr7 {x : Nat} (hx : x < 80) : ∀ (n i : Nat) (S : St), GW S → i ≤ 3 → 3 - i < n →
    ∃ T, m_Cou_letRingGo_L7 n S (nI x) (nI i) = some T ∧ Fr (fun a _ => a = 46) S T ∧ ∀ t, t < 80 → hB S 42 t = true → T 46 t + nI (ct (kidsF S (some x) i) t) = S 46 t := by
  intro n
  induction n with
  | zero => intro i S _ h1 h2; omega
  | succ n ih =>
    intro i S hG h1 h2
    have h80 := hG.2.1
    have hf := fO_le hG (some x)
    rw [m_Cou_letRingGo_L7, ← oI_s x, o1_e (s_fieldsOf hG (some x) (b_s hx))]
    by_cases hi : fO S (some x) ≤ i
    · rw [if_pos (by rw [n_le (by omega) (by omega)]; exact hi), kidsF_end hi]
      exact ⟨S, rfl, Fr.rfl', fun t _ _ => Int32.add_zero _⟩
    · have hnq : B80 (nmQ S (some x) i) := fun u hu => Nat.lt_of_lt_of_le (hG.b_nq _ i u hu) hG.2.1
      rw [if_neg (by rw [n_le (by omega) (by omega)]; exact hi), o1_e (s_nameOf hG (some x) (b_s hx) i (by omega)), o1_e (s_has (k := 42) (d := 1) _ hnq), nI_1, kidsF_cons (by omega), oI_s x]
      by_cases hh : hO S 42 (nmQ S (some x) i) = true
      · cases hq : nmQ S (some x) i with
        | none => rw [hq] at hh; cases hh
        | some u =>
          rw [hq, hO_s] at hh
          have hu := hG.b_nq _ i u hq
          rw [hO_s, hh, if_neg (by decide), oI_s, oi_t (n_in (by omega) (by omega)), oi_t (n_in (by omega) (by omega))]
          simp only [n_cl (show u < 2147483648 by omega)]
          have F1 : Fr (fun a _ => a = 46) S (u2 S 46 u (S 46 u - 1)) := (Fr.u2 _ _ _ _).mono (fun a j q => q.1)
          have g := GEq.of F1 (fun a j q => by omega)
          have b1 : ∀ t, hB (u2 S 46 u (S 46 u - 1)) 42 t = hB S 42 t := fun t => hB_eq (fun j => F1 _ _ (by omega)) t
          obtain ⟨T, e, F, h⟩ := ih (i + 1) _ (hG.eq g) (by omega) (by omega)
          refine ⟨T, e, F1.tr F, fun t ht hht => ?_⟩
          have h3 := h t ht (by rw [b1]; exact hht)
          rw [kidsF_eq g] at h3
          rw [ct_c]
          by_cases q : t = u
          · subst q
            rw [u2_e] at h3
            rw [if_pos rfl, Nat.add_comm, ← nI_1, ← Int32.add_assoc, h3, Int32.sub_add_cancel]
          · rw [u2_n (fun z => q z.2)] at h3
            rw [if_neg (fun z => by cases z; exact q rfl), Nat.zero_add]; exact h3
      · rw [Bool.eq_false_iff.mpr hh, if_pos (show zb false = 0 from rfl)]
        obtain ⟨T, e, F, h⟩ := ih (i + 1) S hG (by omega) (by omega)
        refine ⟨T, e, F, fun t ht hht => ?_⟩
        rw [ct_c, if_neg (fun z => by rw [z] at hh; exact hh hht), Nat.zero_add]
        exact h t ht hht
def nl (L : List Nat) : Nat → Bool := fun t => !decide (t ∈ L)
theorem nl_t {L : List Nat} {t : Nat} : nl L t = true ↔ t ∉ L := by unfold nl; simp
theorem s_cc38 (Sp Lo : List Nat) : ∀ (n i : Nat) (S : St), GW S → RowIs S 52 Sp → RowIs S 55 Lo → i ≤ Sp.length → Sp.length - i < n →
    ∃ T, m_Cou_collectNow_L38 n S (nI i) = some T ∧ Fr (fun a _ => a = 43 ∨ a = 46) S T ∧ (∀ t, t < 80 → (hB T 42 t = true ↔ hB S 42 t = true ∧ t ∉ (Sp.drop i).filter (nl Lo))) ∧
      ∀ t, t < 80 → hB T 42 t = true → T 46 t + nI (fc S ((Sp.drop i).filter (nl Lo)) t) = S 46 t := by
  intro n
  induction n with
  | zero => intro i S _ _ _ h1 h2; omega
  | succ n ih =>
    intro i S hG hR hL h1 h2
    have h80 := hG.2.1
    have hlen := hR.len
    rw [m_Cou_collectNow_L38, hR.2.2.1]
    by_cases hi : Sp.length ≤ i
    · rw [if_pos (by rw [n_le (by omega) (by omega)]; exact hi), List.drop_of_length_le hi]
      exact ⟨S, rfl, Fr.rfl', fun t _ => ⟨fun h => ⟨h, List.not_mem_nil⟩, fun h => h.1⟩, fun t _ _ => Int32.add_zero _⟩
    · obtain ⟨x, hx⟩ : ∃ x, Sp[i]? = some x := ⟨Sp[i]'(by omega), List.getElem?_eq_getElem (by omega)⟩
      have hx8 := hR.2.1 x (List.mem_of_getElem? hx)
      rw [if_neg (by rw [n_le (by omega) (by omega)]; exact hi), o1_e (s_get hR i (by omega)), hx, oI_s, o1_e (s_holdsN hL hx8), drop_cons hx, nI_1]
      by_cases q : x ∈ Lo
      · rw [decide_eq_true q, if_neg (by decide), List.filter_cons_of_neg (fun z => nl_t.mp z q)]
        exact ih (i + 1) S hG hR hL (by omega) (by omega)
      · rw [decide_eq_false q, if_pos (show zb false = 0 from rfl), o1_e (s_get hR i (by omega)), hx, oI_s, List.filter_cons_of_pos (nl_t.mpr q)]
        have F0 : Fr (fun a _ => a = 43) S (u2 S (42 + 1) x 0) := (Fr.u2 _ _ _ _).mono (fun a j q => q.1)
        have g0 := GEq.of F0 (fun a j q => by omega)
        obtain ⟨S2, e2, F2, k2⟩ := s_lr7 hx8 200 0 _ (hG.eq g0) (by omega) (by omega)
        have F02 : Fr (fun a _ => a = 43 ∨ a = 46) S S2 := (F0.mono (fun a j q => Or.inl q)).tr (F2.mono (fun a j q => Or.inr q))
        have g2 := GEq.of F02 (fun a j q => by omega)
        have e3 : m_Cou_letRingGo S (nI x) = some S2 := by
          unfold m_Cou_letRingGo
          rw [o1_e (s_letGo 42 1 S hx8), o1_e (show m_Cou_letRingGo_L7 200 (u2 S (42 + 1) x 0) (nI x) 0 = some S2 from e2)]
        have b2 : ∀ t, hB S2 42 t = true ↔ hB S 42 t = true ∧ t ≠ x := fun t => by
          rw [show hB S2 42 t = hB (u2 S (42 + 1) x 0) 42 t from hB_eq (fun j => F2 _ _ (by omega)) t]
          by_cases z : t = x
          · subst z
            rw [hB_t, u2_e]
            exact ⟨fun y => absurd rfl y, fun y => absurd rfl y.2⟩
          · rw [show hB (u2 S (42 + 1) x 0) 42 t = hB S 42 t by unfold hB; rw [u2_n (fun y => z y.2)]]
            exact ⟨fun y => ⟨y, z⟩, fun y => y.1⟩
        obtain ⟨T, e, F, k3, k4⟩ := ih (i + 1) S2 (hG.eq g2) (hR.fr F02 (fun a j y z => by unfold rowP at y; omega)) (hL.fr F02 (fun a j y z => by unfold rowP at y; omega)) (by omega) (by omega)
        rw [o1_e e3]
        refine ⟨T, e, F02.tr F, fun t ht => ?_, fun t ht hh => ?_⟩
        · rw [k3 t ht, b2 t, List.mem_cons]
          constructor
          · rintro ⟨⟨a, b⟩, c⟩
            exact ⟨a, fun z => z.elim b c⟩
          · rintro ⟨a, b⟩
            exact ⟨⟨a, fun z => b (Or.inl z)⟩, fun z => b (Or.inr z)⟩
        · have h3 := k4 t ht hh
          rw [fc_eq g2] at h3
          have hS2 := (b2 t).mp ((k3 t ht).mp hh).1
          have h4 := k2 t ht (by
            unfold hB; rw [u2_n (fun y => hS2.2 y.2)]; exact hS2.1)
          rw [kidsF_eq g0, u2_n (by omega)] at h4
          rw [fc_c, Nat.add_comm, ← nI_add, ← Int32.add_assoc, h3]
          exact h4
theorem s_cc87 : ∀ (n i : Nat) (S : St), i ≤ 80 → 80 - i < n → ∃ T, m_Cou_collectNow_L87 n S (nI i) = some T ∧ Fr (fun a _ => a = 47) S T := by
  intro n
  induction n with
  | zero => intro i S h1 h2; omega
  | succ n ih =>
    intro i S h1 h2
    rw [m_Cou_collectNow_L87]
    by_cases hi : i = 80
    · subst hi
      exact ⟨S, if_pos (by decide), Fr.rfl'⟩
    · rw [if_neg (by rw [show (80 : Int32) = nI 80 from rfl, n_le (by omega) (by omega)]; omega), oi_t (n_in (by omega) (by omega)), nI_1, n_cl (by omega)]
      obtain ⟨T, e, hF⟩ := ih (i + 1) (u2 S 47 i 0) (by omega) (by omega)
      exact ⟨T, e, ((Fr.u2 S 47 i 0).mono (fun a j h => h.1)).tr hF⟩
theorem filter_len (p : Nat → Bool) : ∀ L : List Nat, (L.filter p).length + (L.filter (fun t => !p t)).length = L.length := by
  intro L
  induction L with
  | nil => rfl
  | cons x L ih =>
    by_cases q : p x = true
    · rw [List.filter_cons_of_pos q, List.filter_cons_of_neg (by rw [q]; decide), List.length_cons, List.length_cons]; omega
    · rw [List.filter_cons_of_neg q, List.filter_cons_of_pos (by rw [Bool.eq_false_iff.mpr q]; rfl), List.length_cons, List.length_cons]; omega
theorem CL.rh {S : St} (hG : GW S) (hC : CL S) : RH S 42 := fun t ht =>
  (rc_min (S := S) (fun t => t < cN S ∧ hB S 42 t = true) (fun r t h1 h2 => ⟨(hG.2.2.2 r h1).2 t h2, hC.2.1 r t h1 h2⟩) (fun t h u hu => ⟨kids_lt hG hu, hC.1 t u h.1 h.2 hu⟩) t ht).2
def fCu (a j : Nat) : Prop := (42 < a ∧ a < 58) ∨ (a = 42 ∧ (j = 3 ∨ j = 5 ∨ j = 6 ∨ j = 10))
theorem geq_Cu {S T : St} (F : Fr fCu S T) : GEq S T := GEq.of F (fun a j q => by unfold fCu at q; omega)
theorem s_couCollect {S : St} {W : Nat} (hG : GW S) (hE : CE S (fun _ => 0)) (hP : CP S (fun _ => 0)) (hC : CL S) (hW : S 42 3 = nI W) :
    ∃ T g, m_Cou_collectNow S = some (nI (spL S).length - nI (loL S).length, T) ∧ Fr (fun a j => fCu a j ∧ ¬ (a = 42 ∧ j = 6) ∧ a ≠ 44) S T ∧ CE T (fun _ => 0) ∧ CP T (fun _ => 0) ∧ CL T ∧ (∀ t, t < 80 → hB T 42 t = true → hB S 42 t = true) ∧
      T 42 3 = nI (W + (spL S).length) ∧ nI (spL S).length - nI (loL S).length = nI g ∧ sm (hadU T 42) (cN T) + g = sm (hadU S 42) (cN S) := by
  have h80 := hG.2.1
  have hRH := hC.rh hG
  obtain ⟨T1, e1, F1, R1, L1⟩ := s_findRings hG
  have s1 := SEq.of F1 (fun a j q => by unfold fRi rowP at q; omega)
  have lSp := R1.len
  have F2 : Fr (fun a j => a = 42 ∧ j = 3) T1 (u2 T1 42 3 (nI (W + (spL S).length))) := Fr.u2 _ _ _ _
  have s2 := s1.trans (SEq.of F2 (fun a j q => by omega))
  obtain ⟨T3, e3, F3, k3, k4⟩ := s_cc38 (spL S) (loL S) 200 0 _ (hG.eq s2.1) (R1.fr F2 (fun a j y z => by unfold rowP at y; omega)) (L1.fr F2 (fun a j y z => by unfold rowP at y; omega)) (Nat.zero_le _) (by omega)
  obtain ⟨T4, e4, F4⟩ := s_cc87 200 0 T3 (by omega) (by omega)
  rw [List.drop_zero] at k3 k4
  simp only [s2.hb] at k3
  rw [fc_eq s2.1] at k4
  -- what is known of the lists
  have hKm : ∀ t u, some u ∈ kids S t → u < 80 := fun t u hu => Nat.lt_of_lt_of_le (kids_lt hG hu) h80
  have spc := sp_lt hG
  have sph : ∀ t ∈ spL S, t < cN S ∧ hB S 42 t = true := clo_min _ (fun t => t < cN S ∧ hB S 42 t = true) (fun t h u hu => ⟨kids_lt hG hu, hC.1 t u h.1 h.2 hu⟩) 80 0 _ (fun t ht => by
    have h := mem_ss.mp ((mem_addsL.mp ht).resolve_left List.not_mem_nil)
    refine ⟨h.1, ?_⟩
    have h2 := h.2
    unfold sB at h2
    rw [Bool.and_eq_true] at h2
    exact h2.1)
  have spcl : ∀ t ∈ spL S, ∀ u, some u ∈ kids S t → u ∈ spL S := clo_closed (kids S) 80 hKm 80 0 _ (addsL_nodup List.nodup_nil) (fun t ht => by
    have h := mem_ss.mp ((mem_addsL.mp ht).resolve_left List.not_mem_nil)
    omega) (by omega) (fun j hj => by omega)
  have lf_e : ∀ x t, lf S (spL S) x = some t → x = t := fun x t h => by
    unfold lf at h
    split at h
    · cases h
    · cases h; rfl
  have lo0 : ∀ t ∈ addsL [] ((spL S).map (lf S (spL S))), t ∈ spL S ∧ lf S (spL S) t = some t := fun t ht => by
    obtain ⟨x, a, b⟩ := List.mem_map.mp ((mem_addsL.mp ht).resolve_left List.not_mem_nil)
    have := lf_e x t b
    subst this
    exact ⟨a, b⟩
  have losp : ∀ t ∈ loL S, t ∈ spL S := clo_min _ (fun t => t ∈ spL S) (fun t h u hu => spcl t h u hu) 80 0 _ (fun t ht => (lo0 t ht).1)
  have locl : ∀ t ∈ loL S, ∀ u, some u ∈ kids S t → u ∈ loL S := clo_closed (kids S) 80 hKm 80 0 _ (addsL_nodup List.nodup_nil) (fun t ht => by have := spc t (lo0 t ht).1; omega) (by omega) (fun j hj => by omega)
  have more : ∀ t, t ∈ spL S → fc S (spL S) t < nf S t + nr S t → t ∈ loL S := fun t ht hlt => by
    have h1 := hE t (spc t ht) (sph t ht).2
    have n1 := nf_le hG t
    have n2 := nr_le S t
    have h2 : lf S (spL S) t = some t := by
      unfold lf
      rw [h1, if_neg]
      show ¬ nI (nf S t + nr S t + 0) ≤ _
      rw [n_le (by omega) (by omega)]; omega
    obtain ⟨M, eM⟩ := clo_pre (kids S) 80 0 (addsL [] ((spL S).map (lf S (spL S))))
    show t ∈ clo (kids S) 80 0 _
    rw [eM]
    exact List.mem_append_left _ (mem_addsL.mpr (Or.inr (List.mem_map.mpr ⟨t, ht, h2⟩)))
  have hfsp : ∀ t, fc S (spL S) t ≤ nf S t := fun t => fc_le (sp_nodup S) sph
  have outer : ∀ t u, t ∈ spL S → u < cN S → hB S 42 u = true → u ∉ spL S → some t ∈ kids S u → t ∈ loL S := fun t u ht hu hh hn hk => by
    refine more t ht ?_
    have h1 : fc S (u :: spL S) t ≤ nf S t := fc_le (List.nodup_cons.mpr ⟨hn, sp_nodup S⟩) (fun v hv => (List.mem_cons.mp hv).elim (fun z => z ▸ ⟨hu, hh⟩) (sph v))
    rw [fc_c] at h1
    have := kc_pos.mpr hk
    omega
  have rooted : ∀ t r, t ∈ spL S → r < 6 → rtO S r = some t → t ∈ loL S := fun t r ht hr h1 => by
    refine more t ht ?_
    have := nr_pos.mpr ⟨r, hr, h1⟩
    have := hfsp t
    omega
  have hreach : ∀ t ∈ rcL S, t ∈ rcL S ∧ (t ∈ spL S → t ∈ loL S) := by
    refine rc_min _ (fun r t hr h1 => ⟨rc_root hr h1, fun h => rooted t r h hr h1⟩) (fun t ht u hu => ⟨rc_kid hG ht.1 hu, fun h => ?_⟩)
    by_cases q : t ∈ spL S
    · exact locl t (ht.2 q) u hu
    · exact outer u t h (rc_lt hG t ht.1) (hRH t ht.1) q hu
  generalize hRm : (spL S).filter (nl (loL S)) = Rm at *
  have mRm : ∀ t, t ∈ Rm ↔ t ∈ spL S ∧ t ∉ loL S := fun t => by rw [← hRm, List.mem_filter, nl_t]
  have nRm : Rm.Nodup := by rw [← hRm]; exact (sp_nodup S).filter _
  have hnr : ∀ t ∈ rcL S, t ∉ Rm := fun t ht z => ((mRm t).mp z).2 ((hreach t ht).2 ((mRm t).mp z).1)
  have lenRm : (spL S).length = Rm.length + (loL S).length := by
    have h1 := filter_len (nl (loL S)) (spL S)
    rw [hRm] at h1
    have h2 : ((spL S).filter (fun t => !nl (loL S) t)).length = (loL S).length := by
      rw [← lsum_1, ← lsum_1]
      refine len_same ((sp_nodup S).filter _) (lo_nodup S) (fun t ht => spc t (losp t ht)) (fun t => ?_) _
      rw [List.mem_filter]
      unfold nl
      simp only [Bool.not_not, decide_eq_true_iff]
      exact ⟨fun z => z.2, fun z => ⟨losp t z, z⟩⟩
    omega
  have F5 : Fr (fun a j => a = 42 ∧ (j = 10 ∨ j = 5)) T4 (u2 (u2 T4 42 10 (T4 42 10 + (T1 52 2 - T1 55 2))) 42 5 (T4 42 5 + 1)) := ((Fr.u2 _ _ _ _).mono (fun a j h => by omega)).tr ((Fr.u2 _ _ _ _).mono (fun a j h => by omega))
  generalize hT : u2 (u2 T4 42 10 (T4 42 10 + (T1 52 2 - T1 55 2))) 42 5 (T4 42 5 + 1) = T at F5
  have FS : Fr (fun a j => fCu a j ∧ ¬ (a = 42 ∧ j = 6) ∧ a ≠ 44) S T := ((((F1.mono (fun a j q => by unfold fRi rowP at q; unfold fCu; omega)).tr (F2.mono (fun a j q => by unfold fCu; omega))).tr (F3.mono (fun a j q => by unfold fCu; omega))).tr (F4.mono (fun a j q => by unfold fCu; omega))).tr (F5.mono (fun a j q => by unfold fCu; omega))
  have g : GEq S T := GEq.of FS (fun a j q => by unfold fCu at q; omega)
  have bT : ∀ t, t < 80 → (hB T 42 t = true ↔ hB S 42 t = true ∧ t ∉ Rm) := fun t ht => by
    rw [show hB T 42 t = hB T3 42 t from hB_eq (fun j => by rw [F5 _ _ (by omega), F4 _ _ (by omega)]) t]; exact k3 t ht
  have cT : ∀ t, t < 80 → hB T 42 t = true → T 46 t + nI (fc S Rm t) = S 46 t := fun t ht hh => by
    rw [F5 46 t (by omega), F4 46 t (by omega)]
    rw [show hB T 42 t = hB T3 42 t from hB_eq (fun j => by rw [F5 _ _ (by omega), F4 _ _ (by omega)]) t] at hh
    rw [k4 t ht hh, s2.2.2.1]
  have hnf : ∀ t, nf T t + fc S Rm t = nf S t := fun t => by
    unfold nf fc
    rw [g.c, lsum_sm _ (cN S) Rm nRm (fun u hu => spc u ((mRm u).mp hu).1), ← sm_add]
    refine sm_congr (fun u hu => ?_)
    unfold nfF
    rw [kc_eq g]
    by_cases q : u ∈ Rm
    · rw [if_neg (fun z => ((bT u (by omega)).mp z).2 q), if_pos q, if_pos (sph u ((mRm u).mp q).1).2]; omega
    · rw [if_neg q]
      by_cases hh : hB S 42 u = true
      · rw [if_pos ((bT u (by omega)).mpr ⟨hh, q⟩), if_pos hh]; rfl
      · rw [if_neg (fun z => hh ((bT u (by omega)).mp z).1), if_neg hh]
  have t3 : T 42 3 = nI (W + (spL S).length) := by rw [F5 42 3 (by omega), F4 42 3 (by omega), F3 42 3 (by omega), u2_e]
  refine ⟨T, Rm.length, ?_, FS, fun t ht hh => ?_, fun t ht hh => ?_, ⟨fun u t hu hh hk => ?_, fun r t hr h1 => ?_, fun t ht hh => ?_⟩, fun t ht hh => ((bT t ht).mp hh).1, t3, ?_, ?_⟩
  · unfold m_Cou_collectNow
    rw [o1_e e1, F1 42 3 (by unfold fRi rowP; omega), hW, R1.2.2.1, nI_add, o1_e (show m_Cou_collectNow_L38 200 _ 0 = some T3 from e3), o1_e (show m_Cou_collectNow_L87 200 T3 0 = some T4 from e4), ← hT, R1.2.2.1, L1.2.2.1]
  · rw [g.c] at ht
    have ht8 : t < 80 := by omega
    have h1 := cT t ht8 hh
    have h2 := hE t ht ((bT t ht8).mp hh).1
    have h3 := hnf t
    have h4 : T 46 t = (T 46 t + nI (fc S Rm t)) - nI (fc S Rm t) := (Int32.add_sub_cancel _ _).symm
    have h2' : S 46 t = nI (nf S t + nr S t) := h2
    rw [h4, h1, h2', pk_sub (by omega), nr_eq g]
    show nI (nf S t + nr S t - fc S Rm t) = nI (nf T t + nr S t)
    rw [show nf S t + nr S t - fc S Rm t = nf T t + nr S t by omega]
  · rw [g.c] at ht
    have ht8 : t < 80 := by omega
    have h1 := (bT t ht8).mp hh
    have h2 := hP t ht h1.1
    have h3 := hnf t
    rw [nr_eq g]
    show 1 ≤ nf T t + nr S t + 0
    by_cases q : t ∈ spL S
    · have hlo : t ∈ loL S := by
        by_cases z : t ∈ loL S
        · exact z
        · exact absurd ((mRm t).mpr ⟨q, z⟩) h1.2
      obtain ⟨j, hj⟩ := List.getElem?_of_mem hlo
      rcases clo_src (kids S) (fun t => t ∈ addsL [] ((spL S).map (lf S (spL S)))) 80 0 _ (fun j t hj => Or.inl (List.mem_of_getElem? hj)) j t hj with z | ⟨a, x, -, ha, hk⟩
      · have h5 := (lo0 t z).2
        have h6 := hE t ht h1.1
        have n1 := nf_le hG t
        have n2 := nr_le S t
        have n3 := hfsp t
        have h7 : fc S Rm t ≤ fc S (spL S) t := lsum_sub nRm (sp_nodup S) spc (fun u hu => ((mRm u).mp hu).1)
        unfold lf at h5
        split at h5
        · cases h5
        · rename_i z2
          rw [h6] at z2
          have z3 : ¬ nI (nf S t + nr S t + 0) ≤ nI (fc S (spL S) t) := z2
          rw [n_le (by omega) (by omega)] at z3
          omega
      · have hxl := List.mem_of_getElem? ha
        have hxR : x ∉ Rm := fun y => ((mRm x).mp y).2 hxl
        have h5 : fc S (x :: Rm) t ≤ nf S t := fc_le (List.nodup_cons.mpr ⟨hxR, nRm⟩) (fun v hv => (List.mem_cons.mp hv).elim (fun z => z ▸ sph x (losp x hxl)) (fun y => sph v ((mRm v).mp y).1))
        rw [fc_c] at h5
        have := kc_pos.mpr hk
        omega
    · have h0 : fc S Rm t = 0 := by
        by_cases z : 0 < fc S Rm t
        · obtain ⟨u, hu, hk⟩ := fc_pos.mp z
          exact absurd (spcl u ((mRm u).mp hu).1 t hk) q
        · omega
      have h2' : 1 ≤ nf S t + nr S t + 0 := h2
      omega
  · rw [g.c] at hu
    rw [kids_eq g] at hk
    have h1 := (bT u (by omega)).mp hh
    have ht8 := hKm u t hk
    refine (bT t ht8).mpr ⟨hC.1 u t hu h1.1 hk, fun z => ?_⟩
    obtain ⟨z1, z2⟩ := (mRm t).mp z
    by_cases q : u ∈ spL S
    · by_cases y : u ∈ loL S
      · exact z2 (locl u y t hk)
      · exact h1.2 ((mRm u).mpr ⟨q, y⟩)
    · exact z2 (outer t u z1 hu h1.1 q hk)
  · rw [g.r] at h1
    exact (bT t (hG.b_rt hr t h1)).mpr ⟨hC.2.1 r t hr h1, hnr t (rc_root hr h1)⟩
  · rw [g.c]; exact hC.2.2 t ht ((bT t ht).mp hh).1
  · rw [lenRm, pk_sub (by omega), Nat.add_sub_cancel]
  · rw [← lsum_1 Rm, lsum_sm _ (cN S) Rm nRm (fun u hu => spc u ((mRm u).mp hu).1), g.c, ← sm_add]
    refine sm_congr (fun t ht => ?_)
    unfold hadU
    rw [rcL_eq g]
    by_cases hr : t ∈ rcL S
    · rw [if_neg (fun z => z.2 hr), if_neg (hnr t hr), if_neg (fun z => z.2 hr)]
    · by_cases q : t ∈ Rm
      · rw [if_neg (fun z => ((bT t (by omega)).mp z.1).2 q), if_pos q, if_pos ⟨(sph t ((mRm t).mp q).1).2, hr⟩]
      · rw [if_neg q]
        by_cases hh : hB S 42 t = true
        · rw [if_pos ⟨(bT t (by omega)).mpr ⟨hh, q⟩, hr⟩, if_pos ⟨hh, hr⟩]
        · rw [if_neg (fun z => hh ((bT t (by omega)).mp z.1).1), if_neg (fun z => hh z.1)]
