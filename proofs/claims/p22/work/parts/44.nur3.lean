def gB (S : St) (t : Nat) : Bool := decide (S 30 t ≠ 0)
theorem s_isGrown {S : St} (hG : GW S) {t : Nat} (ht : t < cN S) : m_Nur_isGrown S (nI t) = some (zb (gB S t)) := by
  have h80 := hG.2.1
  unfold m_Nur_isGrown
  rw [o1_e (s_isThingN hG ht), if_neg (by decide), oi_t (n_in (by omega) (by omega)), n_cl (by omega)]
  unfold gB
  by_cases q : S 30 t = 0
  · rw [if_pos q, decide_eq_false (fun z => z q)]; rfl
  · rw [if_neg q, decide_eq_true q]; rfl
theorem s_wg (Y : List Nat) : ∀ (n i v : Nat) (S : St), GW S → RowIs S 21 Y → (∀ t ∈ Y, t < cN S) → i ≤ Y.length → Y.length - i < n → m_Nur_wordsGrown_L4 n S (nI v) (nI i) = some (nI (v + lsum (wN S) ((Y.drop i).filter (gB S)))) := by
  intro n
  induction n with
  | zero => intro i v S _ _ _ h1 h2; omega
  | succ n ih =>
    intro i v S hG hR hL h1 h2
    have hlen := hR.len
    rw [m_Nur_wordsGrown_L4, hR.2.2.1]
    by_cases hi : Y.length ≤ i
    · rw [if_pos (by rw [n_le (by omega) (by omega)]; exact hi), List.drop_of_length_le hi]; rfl
    · obtain ⟨x, hx⟩ : ∃ x, Y[i]? = some x := ⟨Y[i]'(by omega), List.getElem?_eq_getElem (by omega)⟩
      have hxc := hL x (List.mem_of_getElem? hx)
      rw [if_neg (by rw [n_le (by omega) (by omega)]; exact hi), o1_e (s_get hR i (by omega)), hx, oI_s, o1_e (s_isGrown hG hxc), nI_1 i, drop_cons hx]
      by_cases q : gB S x = true
      · rw [q, if_neg (by decide), o1_e (s_get hR i (by omega)), hx, oI_s, o1_e (s_wordsN hG hxc), nI_add, ih (i + 1) _ S hG hR hL (by omega) (by omega), List.filter_cons_of_pos q, lsum_c, Nat.add_assoc]
      · rw [Bool.eq_false_iff.mpr q, if_pos (show zb false = 0 from rfl), show (0 : Int32) = nI 0 from rfl, nI_add, ih (i + 1) _ S hG hR hL (by omega) (by omega), List.filter_cons_of_neg q, Nat.add_zero]
def fMv (a j : Nat) : Prop := (18 < a ∧ a < 27) ∨ a = 30 ∨ (a = 18 ∧ (j = 2 ∨ j = 10 ∨ j = 15 ∨ j = 16))
theorem s_nuL87 (F : List Nat) (gr : Nat → Bool) (O : List Nat) (M : Nat) (hM : M < 200) : ∀ (n i : Nat) (S : St) (W : Nat), GW S → RowIs S 27 F → (∀ t ∈ F, t < cN S) → (∀ t ∈ F, t ∉ O) → NuQ S M ((F.take i).filter (fun t => !gr t)) (O ++ (F.take i).filter gr) → (∀ t ∈ F.drop i, gB S t = gr t) → S 18 2 = nI W → i ≤ F.length → F.length - i < n →
    ∃ T, m_Nur_cleanUpYoung_L87 n S (nI i) = some T ∧ Fr fMv S T ∧ NuQ T M (F.filter (fun t => !gr t)) (O ++ F.filter gr) ∧ T 18 2 = nI (W + lsum (wN S) (F.drop i)) := by
  intro n
  induction n with
  | zero => intro i S W _ _ _ _ _ _ _ h1 h2; omega
  | succ n ih =>
    intro i S W hG hR hl hFO hQ hgr hW h1 h2
    have hlen := hR.len
    rw [m_Nur_cleanUpYoung_L87, hR.2.2.1]
    by_cases hi : F.length ≤ i
    · rw [if_pos (by rw [n_le (by omega) (by omega)]; exact hi), List.drop_of_length_le hi]
      rw [List.take_of_length_le hi] at hQ
      exact ⟨S, rfl, Fr.rfl', hQ, hW⟩
    · obtain ⟨x, hx⟩ : ∃ x, F[i]? = some x := ⟨F[i]'(by omega), List.getElem?_eq_getElem (by omega)⟩
      have hxF := List.mem_of_getElem? hx
      have hxc := hl x hxF
      have hxt := take_not hR.1 hx
      have hgx : gB S x = gr x := hgr x (by rw [drop_cons hx]; exact List.mem_cons_self)
      have hdx : ∀ t ∈ F.drop (i + 1), t ≠ x := fun t ht e => by
        have hn := hR.1
        rw [← List.take_append_drop (i + 1) F, List.nodup_append] at hn
        exact hn.2.2 x (by rw [take_snoc hx]; exact List.mem_append_right _ (List.mem_singleton.mpr rfl)) t ht e.symm
      have hxY : x ∉ (F.take i).filter (fun t => !gr t) := fun z => hxt (List.mem_filter.mp z).1
      have hxO : x ∉ O ++ (F.take i).filter gr := fun z => (List.mem_append.mp z).elim (hFO x hxF) (fun y => hxt (List.mem_filter.mp y).1)
      have go : ∀ (T : St) (Fr1 : Fr fMv S T) (Q : NuQ T M ((F.take (i + 1)).filter (fun t => !gr t)) (O ++ (F.take (i + 1)).filter gr)), (∀ t, t ≠ x → T 30 t = S 30 t) → T 18 2 = nI (W + wN S x) →
          ∃ U, m_Nur_cleanUpYoung_L87 n T (nI (i + 1)) = some U ∧ Fr fMv S U ∧ NuQ U M (F.filter (fun t => !gr t)) (O ++ F.filter gr) ∧ U 18 2 = nI (W + lsum (wN S) (F.drop i)) := by
        intro T F1 Q h30 hW1
        have g : GEq S T := GEq.of F1 (fun a j q => by unfold fMv at q; omega)
        obtain ⟨U, e, F2, Q2, w2⟩ := ih (i + 1) T _ (hG.eq g) (hR.fr F1 (fun a j q z => by unfold rowP at q; unfold fMv at z; omega)) (fun t ht => by rw [g.c]; exact hl t ht) hFO Q (fun t ht => by
          unfold gB; rw [h30 t (hdx t ht)]; exact hgr t (by rw [drop_cons hx]; exact List.mem_cons_of_mem _ ht)) hW1 (by omega) (by omega)
        refine ⟨U, e, F1.tr F2, Q2, ?_⟩
        rw [w2, wN_eq g, drop_cons hx, lsum_c, Nat.add_assoc]
      rw [if_neg (by rw [n_le (by omega) (by omega)]; exact hi), o1_e (s_get hR i (by omega)), hx, oI_s, nI_1]
      unfold m_Nur_moveFound
      rw [o1_e (s_wordsN hG hxc), o1_e (s_isGrown hG hxc), hgx]
      by_cases q : gr x = true
      · obtain ⟨T, e, F1, Q1⟩ := s_putOld hG hQ hM hxc hxY hxO
        have F2 : Fr (fun a j => a = 18 ∧ (j = 10 ∨ j = 2)) T (u2 (u2 T 18 10 (T 18 10 + nI (wN S x))) 18 2 (T 18 2 + nI (wN S x))) := ((Fr.u2 _ _ _ _).mono (fun a j h => by omega)).tr ((Fr.u2 _ _ _ _).mono (fun a j h => by omega))
        have g2 : GEq T (u2 (u2 T 18 10 (T 18 10 + nI (wN S x))) 18 2 (T 18 2 + nI (wN S x))) := ⟨rfl, fun _ => rfl, fun _ => rfl, fun _ => rfl⟩
        have Q2 := Q1.fr g2 F2 (fun a j q z => by unfold rowP at z; omega)
        rw [q, if_neg (by decide), o1_e e]
        refine go _ ((F1.mono (fun a j q => by unfold fO1 rowP at q; unfold fMv; omega)).tr (F2.mono (fun a j q => by unfold fMv; omega))) ?_ (fun t _ => by rw [F2 30 t (by omega), F1 30 t (by unfold fO1 rowP; omega)]) (by rw [u2_e, F1 18 2 (by unfold fO1 rowP; omega), hW, nI_add])
        rw [take_snoc hx, List.filter_append, List.filter_append, List.filter_cons_of_pos q, List.filter_cons_of_neg (by rw [q]; decide), List.filter_nil, List.filter_nil, List.append_nil, ← List.append_assoc]
        exact Q2
      · obtain ⟨T, e, F1, Q1⟩ := s_putYoung 1 hG hQ hxc hxY hxO
        have F2 : Fr (fun a j => a = 18 ∧ j = 2) T (u2 T 18 2 (T 18 2 + nI (wN S x))) := Fr.u2 _ _ _ _
        have g2 : GEq T (u2 T 18 2 (T 18 2 + nI (wN S x))) := ⟨rfl, fun _ => rfl, fun _ => rfl, fun _ => rfl⟩
        have Q2 := Q1.fr g2 F2 (fun a j q z => by unfold rowP at z; omega)
        rw [Bool.eq_false_iff.mpr q, if_pos (show zb false = 0 from rfl), o1_e e]
        refine go _ ((F1.mono (fun a j q => by unfold fY1 rowP at q; unfold fMv; omega)).tr (F2.mono (fun a j q => by unfold fMv; omega))) ?_ (fun t ht => by rw [F2 30 t (by omega), F1 30 t (by unfold fY1 rowP; omega)]) (by rw [u2_e, F1 18 2 (by unfold fY1 rowP; omega), hW, nI_add])
        rw [take_snoc hx, List.filter_append, List.filter_append, List.filter_cons_of_neg q, List.filter_cons_of_pos (by rw [Bool.eq_false_iff.mpr q]; rfl), List.filter_nil, List.filter_nil, List.append_nil]
        exact Q2
theorem s_nuL44 (Y : List Nat) : ∀ (n i : Nat) (S : St), RowIs S 21 Y → i ≤ Y.length → Y.length - i < n → ∃ T, m_Nur_cleanUpYoung_L44 n S (nI i) = some T ∧ Fr (fun a _ => a = 19) S T ∧ (∀ t ∈ Y.drop i, T 19 t = 0) ∧ ∀ t, t ∉ Y.drop i → T 19 t = S 19 t := by
  intro n
  induction n with
  | zero => intro i S _ h1 h2; omega
  | succ n ih =>
    intro i S hR h1 h2
    have hlen := hR.len
    rw [m_Nur_cleanUpYoung_L44, hR.2.2.1]
    by_cases hi : Y.length ≤ i
    · rw [if_pos (by rw [n_le (by omega) (by omega)]; exact hi), List.drop_of_length_le hi]
      exact ⟨S, rfl, Fr.rfl', fun t h => (by cases h), fun _ _ => rfl⟩
    · obtain ⟨x, hx⟩ : ∃ x, Y[i]? = some x := ⟨Y[i]'(by omega), List.getElem?_eq_getElem (by omega)⟩
      rw [if_neg (by rw [n_le (by omega) (by omega)]; exact hi), o1_e (s_get hR i (by omega)), hx, oI_s, o1_e (s_letGo 18 0 S (hR.2.1 x (List.mem_of_getElem? hx))), nI_1, drop_cons hx]
      have F1 : Fr (fun a _ => a = 19) S (u2 S (18 + 1) x 0) := (Fr.u2 _ _ _ _).mono (fun a j q => q.1)
      obtain ⟨T, e, F, k1, k2⟩ := ih (i + 1) _ (hR.fr F1 (fun a j q z => by unfold rowP at q; omega)) (by omega) (by omega)
      refine ⟨T, e, F1.tr F, fun t ht => ?_, fun t ht => ?_⟩
      · by_cases q : t ∈ Y.drop (i + 1)
        · exact k1 t q
        · have := (List.mem_cons.mp ht).resolve_right q
          subst this
          rw [k2 t q]; exact u2_e _ _ _ _
      · rw [k2 t (fun z => ht (List.mem_cons_of_mem _ z)), u2_n (fun z : (19 = 18 + 1 ∧ t = x) => ht (List.mem_cons.mpr (Or.inl z.2)))]
theorem lsum_filter_le (w : Nat → Nat) (p : Nat → Bool) (L : List Nat) : lsum w (L.filter p) ≤ lsum w L := by
  induction L with
  | nil => exact Nat.le_refl _
  | cons x L ih =>
    by_cases q : p x = true
    · rw [List.filter_cons_of_pos q, lsum_c, lsum_c]; omega
    · rw [List.filter_cons_of_neg q, lsum_c]; omega
theorem s_small {S : St} {M W : Nat} (hG : GI S) (hI : NuI S M) (hM : M < 200) (hW : S 18 2 = nI W) : ∃ r T, m_Nur_cleanUpYoung S = some (r, T) ∧ Fr fNu S T ∧ NuI T M ∧ (S 18 5 = 0 → ∀ t, t < 80 → hB T 18 t = true → hB S 18 t = true) ∧ ∃ W', T 18 2 = nI W' ∧ W ≤ W' ∧ W' ≤ W + 320 := by
  have hw := hG.1
  have h80 := hw.2.1
  unfold m_Nur_cleanUpYoung
  by_cases h5 : S 18 5 = 0
  · rw [if_pos h5]
    have hI' := hI
    obtain ⟨h1, -, h3⟩ := hI
    obtain ⟨Y, O, hQ, hY, hO, hr⟩ := h3 h5
    have hQ' := hQ
    obtain ⟨a1, a2, a3, a4, a5, a6, a7, a8, a9, a10⟩ := hQ
    have lY := a1.len
    have ewg : m_Nur_wordsGrown S = some (nI (lsum (wN S) (Y.filter (gB S)))) := by
      unfold m_Nur_wordsGrown
      have := s_wg Y 200 0 0 S hw a1 a4 (Nat.zero_le _) (by omega)
      rw [List.drop_zero, Nat.zero_add] at this
      rw [o1_e (show m_Nur_wordsGrown_L4 200 S 0 0 = _ from this)]
    have b1 : lsum (wN S) (Y.filter (gB S)) ≤ M / 4 := Nat.le_trans (lsum_filter_le _ _ _) hY
    rw [o1_e ewg, h1, a8, pk_sub hO]
    by_cases hc : lsum (wN S) (Y.filter (gB S)) ≤ M - (M / 4 + lsum (wN S) O)
    · rw [if_pos (by rw [n_le (by omega) (by omega)]; exact hc)]
      obtain ⟨T1, F, e1, F1, R1, f1, f2, f3⟩ := s_findYoung hw a1 a2 a5
      have g1 := GEq.row F1 (by omega)
      have hFc : ∀ t ∈ F, t < cN S := fun t ht => a4 t (f1 t ht)
      obtain ⟨T2, e2, F2, k1, k2⟩ := s_nuL44 Y 200 0 T1 (fr27 a1 F1 (Or.inl rfl)) (Nat.zero_le _) (by omega)
      rw [List.drop_zero] at k1 k2
      have g2 : GEq T1 T2 := GEq.of F2 (fun a j q => by omega)
      obtain ⟨T3, e3, F3, R3⟩ := s_empty 21 T2
      have g3 := GEq.row F3 (by omega)
      have F4 : Fr (fun a j => a = 18 ∧ j = 15) T3 (u2 T3 18 15 0) := Fr.u2 _ _ _ _
      have g4 : GEq T3 (u2 T3 18 15 0) := ⟨rfl, fun _ => rfl, fun _ => rfl, fun _ => rfl⟩
      have gg := ((g1.trans g2).trans g3).trans g4
      have FA : Fr (fun a j => rowP 27 a j ∨ a = 19 ∨ rowP 21 a j ∨ (a = 18 ∧ j = 15)) S (u2 T3 18 15 0) :=
        (((F1.mono (fun a j q => Or.inl q)).tr (F2.mono (fun a j q => Or.inr (Or.inl q)))).tr (F3.mono (fun a j q => Or.inr (Or.inr (Or.inl q))))).tr (F4.mono (fun a j q => Or.inr (Or.inr (Or.inr q))))
      have hw4 := wN_eq gg
      have q0 : NuQ (u2 T3 18 15 0) M [] O := by
        refine ⟨R3.fr F4 (fun a j q z => by unfold rowP at q; omega), a2.fr FA (fun a j q z => by unfold rowP at q z; omega), fun t h => (by cases h), fun t h => (by cases h), fun t ht => by rw [gg.c]; exact a5 t ht, fun t ht => ?_, by rw [u2_e]; rfl, ?_, PK.nil _ _ _, a10.eq (fun u _ => FA _ _ (by unfold rowP; omega)) (fun u _ => by rw [hw4])⟩
        · have e19 : hB (u2 T3 18 15 0) 18 t = hB T2 18 t := hB_eq (fun j => by rw [u2_n (by omega), F3 (18 + 1) j (by unfold rowP; omega)]) t
          rw [e19]
          by_cases hy : t ∈ Y
          · rw [hB_t, show T2 (18 + 1) t = T2 19 t from rfl, k1 t hy]
            exact ⟨fun z => absurd rfl z, fun z => z.elim (fun y => by cases y) (fun y => absurd y (a3 t hy))⟩
          · rw [show hB T2 18 t = hB S 18 t by unfold hB; rw [show T2 (18 + 1) t = T2 19 t from rfl, k2 t hy, F1 19 t (by unfold rowP; omega)], a6 t ht]
            exact ⟨fun z => z.elim (fun y => absurd y hy) Or.inr, fun z => z.elim (fun y => by cases y) Or.inr⟩
        · rw [hw4, FA 18 16 (by unfold rowP; omega)]; exact a8
      have RF : RowIs (u2 T3 18 15 0) 27 F := ((R1.fr F2 (fun a j q z => by unfold rowP at q; omega)).fr F3 (fun a j q z => by unfold rowP at q z; omega)).fr F4 (fun a j q z => by unfold rowP at q; omega)
      have lF := RF.len
      obtain ⟨T5, e5, F5, Q5, w5⟩ := s_nuL87 F (gB S) O M hM 200 0 (u2 T3 18 15 0) W (hw.eq gg) RF (fun t ht => by rw [gg.c]; exact hFc t ht) (fun t ht => a3 t (f1 t ht))
        (by rw [List.take_zero, List.filter_nil, List.filter_nil, List.append_nil]; exact q0) (fun t _ => by unfold gB; rw [FA 30 t (by unfold rowP; omega)]) (by rw [FA 18 2 (by unfold rowP; omega), hW]) (Nat.zero_le _) (by omega)
      have g5 : GEq (u2 T3 18 15 0) T5 := GEq.of F5 (fun a j q => by unfold fMv at q; omega)
      have F6 : Fr (fun a j => a = 18 ∧ j = 9) T5 (u2 T5 18 9 (T5 18 9 + 1)) := Fr.u2 _ _ _ _
      have g6 : GEq T5 (u2 T5 18 9 (T5 18 9 + 1)) := ⟨rfl, fun _ => rfl, fun _ => rfl, fun _ => rfl⟩
      have Q6 := Q5.fr g6 F6 (fun a j q z => by unfold rowP at z; omega)
      have g7 := (gg.trans g5).trans g6
      have FS : Fr fNu S (u2 T5 18 9 (T5 18 9 + 1)) := ((FA.mono (fun a j q => by unfold rowP at q; unfold fNu; omega)).tr (F5.mono (fun a j q => by unfold fMv at q; unfold fNu; omega))).tr (F6.mono (fun a j q => by unfold fNu; omega))
      have t5 : (u2 T5 18 9 (T5 18 9 + 1)) 18 5 = 0 := by rw [u2_n (by omega), F5 18 5 (by unfold fMv; omega), FA 18 5 (by unfold rowP; omega), h5]
      rw [o1_e e1, o1_e (show m_Nur_cleanUpYoung_L44 200 T1 0 = some T2 from e2), o1_e e3, o1_e (show m_Nur_cleanUpYoung_L87 200 (u2 T3 18 15 0) 0 = some T5 from e5)]
      have hmem : ∀ t, t ∈ F.filter (fun t => !gB S t) ∨ t ∈ O ++ F.filter (gB S) → t ∈ F ∨ t ∈ O := fun t h => h.elim (fun z => Or.inl (List.mem_filter.mp z).1) (fun z => (List.mem_append.mp z).elim Or.inr (fun y => Or.inl (List.mem_filter.mp y).1))
      have hmem2 : ∀ t, t ∈ F ∨ t ∈ O → t ∈ F.filter (fun t => !gB S t) ∨ t ∈ O ++ F.filter (gB S) := fun t h => by
        rcases h with z | z
        · by_cases q : gB S t = true
          · exact Or.inr (List.mem_append_right _ (List.mem_filter.mpr ⟨z, q⟩))
          · exact Or.inl (List.mem_filter.mpr ⟨z, by rw [Bool.eq_false_iff.mpr q]; rfl⟩)
        · exact Or.inr (List.mem_append_left _ z)
      have hreach : ∀ t ∈ rcL S, t ∈ rcL S ∧ (t ∈ F ∨ t ∈ O) := by
        refine rc_min _ (fun r t hrr h2 => ?_) (fun t ht u hu => ?_)
        · have h4 := rc_root hrr h2
          exact ⟨h4, (hr t h4).elim (fun z => Or.inl (f2 r t hrr h2 z)) Or.inr⟩
        · have h4 := rc_kid hw ht.1 hu
          exact ⟨h4, (hr u h4).elim (fun z => Or.inl (f3 t ht.2.symm u hu z)) Or.inr⟩
      have b2 : lsum (wN S) F ≤ lsum (wN S) Y := lsum_sub R1.1 a1.1 a4 f1
      refine ⟨_, _, rfl, FS, ⟨(FS 18 1 (by unfold fNu; omega)).trans h1, fun q => absurd t5 q, fun _ => ⟨_, _, Q6, ?_, ?_, fun t ht => ?_⟩⟩, fun _ t ht hh => ?_, W + lsum (wN S) F, ?_, by omega, by omega⟩
      · rw [wN_eq g7]
        exact Nat.le_trans (lsum_filter_le _ _ _) (Nat.le_trans b2 hY)
      · rw [wN_eq g7, lsum_a]
        have : lsum (wN S) (F.filter (gB S)) ≤ lsum (wN S) (Y.filter (gB S)) := lsum_sub (R1.1.filter _) (a1.1.filter _) (fun t ht => a4 t (List.mem_filter.mp ht).1) (fun t ht => List.mem_filter.mpr ⟨f1 t (List.mem_filter.mp ht).1, (List.mem_filter.mp ht).2⟩)
        omega
      · rw [rcL_eq g7] at ht
        exact hmem2 t (hreach t ht).2
      · have := hmem t ((Q6.2.2.2.2.2.1 t ht).mp hh)
        exact (a6 t ht).mpr (this.elim (fun z => Or.inl (f1 t z)) Or.inr)
      · rw [u2_n (by omega), w5, hw4, List.drop_zero]
    · rw [if_neg (by rw [n_le (by omega) (by omega)]; exact hc)]
      rcases s_nuCollect hG hI' hM h5 hW with ⟨hfit, T, R, e, F, hT, t5, t2, QT, hm, -⟩ | ⟨-, T, e, F, hT, t5, t2⟩
      · rw [ob_e e]
        refine ⟨_, T, rfl, F, hT, fun _ t ht hh => ?_, _, t2, by omega, by omega⟩
        exact (a6 t ht).mpr (hr t ((hm t).mp (((QT.2.2.2.2.2.1 t ht).mp hh).resolve_left List.not_mem_nil)))
      · rw [ob_e e]
        refine ⟨_, T, rfl, F, hT, fun _ t ht hh => ?_, W, t2.trans hW, Nat.le_refl _, by omega⟩
        rw [hT.2.1 t5 t ht] at hh; cases hh
  · rw [if_neg h5]
    exact ⟨_, S, rfl, Fr.rfl', hI, fun q => absurd q h5, W, hW, Nat.le_refl _, by omega⟩
theorem s_nuPlace {S : St} {M W t : Nat} (hG : GI S) (hI : NuI S M) (hM1 : 40 ≤ M) (hM : M < 200) (h5 : S 18 5 = 0) (hW : S 18 2 = nI W) (ht : t < cN S) (htr : t ∉ rcL S) (hth : hB S 18 t = false) :
    ∃ T, m_Nur_placeNew S (nI t) = some T ∧ Fr fNu S T ∧ NuI T M ∧ (T 18 5 = 0 → hB T 18 t = true) ∧ ∃ W', T 18 2 = nI W' ∧ W ≤ W' ∧ W' ≤ W + 640 := by
  have hw := hG.1
  have h80 := hw.2.1
  have hw4 := wN_le hw ht
  have t80 : t < 80 := by omega
  have put : ∀ (U : St) (Y O : List Nat) (W1 : Nat), Fr fNu S U → U 18 5 = 0 → NuQ U M Y O → lsum (wN U) Y + wN S t ≤ M / 4 → M / 4 + lsum (wN U) O ≤ M → (∀ u ∈ rcL U, u ∈ Y ∨ u ∈ O) → hB U 18 t = false → U 18 2 = nI W1 → W ≤ W1 → W1 ≤ W + 640 →
      ∃ T, m_Nur_putYoung U (nI t) 0 = some T ∧ Fr fNu S T ∧ NuI T M ∧ (T 18 5 = 0 → hB T 18 t = true) ∧ ∃ W', T 18 2 = nI W' ∧ W ≤ W' ∧ W' ≤ W + 640 := by
    intro U Y O W1 FU u5 QU hle hO hr hno hW1 w1 w2
    have gU := geq_Nu FU
    have hno' : ¬ (t ∈ Y ∨ t ∈ O) := fun z => by rw [(QU.2.2.2.2.2.1 t t80).mpr z] at hno; cases hno
    obtain ⟨T, e, F, Q⟩ := s_putYoung 0 (hw.eq gU) QU (t := t) (by rw [gU.c]; exact ht) (fun z => hno' (Or.inl z)) (fun z => hno' (Or.inr z))
    have FS := FU.tr (F.mono (fun a j q => by unfold fY1 rowP at q; unfold fNu; omega))
    have g : GEq U T := GEq.of F (fun a j q => by unfold fY1 rowP at q; omega)
    have t5 : T 18 5 = 0 := (F 18 5 (by unfold fY1 rowP; omega)).trans u5
    refine ⟨T, e, FS, ⟨(FS 18 1 (by unfold fNu; omega)).trans hI.1, fun q => absurd t5 q, fun _ => ⟨_, _, Q, ?_, ?_, fun u hu => ?_⟩⟩, fun _ => (Q.2.2.2.2.2.1 t t80).mpr (Or.inl (List.mem_append_right _ (List.mem_singleton.mpr rfl))), W1, (F 18 2 (by unfold fY1 rowP; omega)).trans hW1, w1, w2⟩
    · rw [wN_eq g, lsum_a, lsum_c, lsum_n, wN_eq gU] at *; omega
    · rw [wN_eq g]; exact hO
    · rw [rcL_eq g] at hu
      exact (hr u hu).elim (fun z => Or.inl (List.mem_append_left _ z)) Or.inr
  have free : ∀ (U : St) (Y O : List Nat), U 18 1 = nI M → NuQ U M Y O → lsum (wN U) Y ≤ M / 4 → m_Nur_freeTogether U = some (nI (M / 4 - lsum (wN U) Y)) := by
    intro U Y O hU1 QU hle
    unfold m_Nur_freeTogether
    rw [hU1, QU.2.2.2.2.2.2.1, show (4 : Int32) = nI 4 from rfl, pk_div (by omega) (by omega) (by omega), pk_sub hle]
  obtain ⟨Y, O, hQ, hY, hO, hr⟩ := hI.2.2 h5
  unfold m_Nur_placeNew
  rw [o1_e (s_wordsN hw ht), o1_e (free S Y O hI.1 hQ hY)]
  by_cases hc : wN S t ≤ M / 4 - lsum (wN S) Y
  · rw [if_pos (by rw [n_le (by omega) (by omega)]; exact hc), if_pos h5, o1_e (free S Y O hI.1 hQ hY), if_pos (by rw [n_le (by omega) (by omega)]; exact hc), if_pos h5]
    obtain ⟨T, e, k⟩ := put S Y O W Fr.rfl' h5 hQ (by omega) hO hr hth hW (Nat.le_refl _) (by omega)
    rw [o1_e e]
    exact ⟨T, rfl, k⟩
  · rw [if_neg (by rw [n_le (by omega) (by omega)]; exact hc)]
    obtain ⟨r, U, e, FU, hU, hsh, W1, uw, w1, w2⟩ := s_small hG hI hM hW
    have gU := geq_Nu FU
    have hGU : GI U := hG.eq gU (fun j => FU 5 j (by unfold fNu; omega))
    have hnoU : hB U 18 t = false := Bool.eq_false_iff.mpr (fun z => by rw [hsh h5 t t80 z] at hth; cases hth)
    rw [ob_e e]
    by_cases u5 : U 18 5 = 0
    · obtain ⟨Y2, O2, hQ2, hY2, hO2, hr2⟩ := hU.2.2 u5
      rw [if_pos u5, o1_e (free U Y2 O2 hU.1 hQ2 hY2)]
      by_cases hc2 : wN S t ≤ M / 4 - lsum (wN U) Y2
      · rw [if_pos (by rw [n_le (by omega) (by omega)]; exact hc2), if_pos u5]
        obtain ⟨T, e2, k⟩ := put U Y2 O2 W1 FU u5 hQ2 (by omega) hO2 hr2 hnoU uw w1 (by omega)
        rw [o1_e e2]
        exact ⟨T, rfl, k⟩
      · rw [if_neg (by rw [n_le (by omega) (by omega)]; exact hc2)]
        have htrU : t ∉ rcL U := by rw [rcL_eq gU]; exact htr
        rcases s_nuCollect hGU hU hM u5 uw with ⟨hfit, V, R, e2, FV, hV, v5, v2, QV, hm, hle⟩ | ⟨-, V, e2, FV, hV, v5, v2⟩
        · have gV := geq_Nu FV
          have b : sm (hadR U 18) (cN U) ≤ 320 := by
            have hRH := hQ2.rh hGU.1 hr2
            rw [r_sum hGU.1 hRH]; exact lw_le hGU.1 (rc_nodup U) (rc_lt hGU.1)
          rw [ob_e e2, if_pos v5]
          obtain ⟨T, e3, k⟩ := put V [] R _ (FU.tr FV) v5 QV (by rw [lsum_n]; omega) (by rw [wN_eq gV]; exact hle) (fun u hu => Or.inr ((hm u).mpr (by rw [rcL_eq gV] at hu; exact hu)))
            (Bool.eq_false_iff.mpr (fun z => htrU ((hm t).mp (((QV.2.2.2.2.2.1 t t80).mp z).resolve_left List.not_mem_nil)))) v2 (by omega) (by omega)
          rw [o1_e e3]
          exact ⟨T, rfl, k⟩
        · rw [ob_e e2, if_neg v5]
          exact ⟨V, rfl, FU.tr FV, hV, fun q => absurd q v5, W1, v2.trans uw, w1, by omega⟩
    · rw [if_neg u5, if_neg u5]
      exact ⟨U, rfl, FU, hU, fun q => absurd q u5, W1, uw, w1, by omega⟩
theorem NuI.tr {S T : St} {M : Nat} (hI : NuI S M) (hT : GW T) (hc : cN S ≤ cN T) (hw : ∀ t, t < cN S → wN T t = wN S t) (h18 : ∀ a j, 18 < a → a < 31 → T a j = S a j)
    (h1 : ∀ j, j ≠ 2 → j ≠ 3 → j ≠ 6 → T 18 j = S 18 j) (hr : S 18 5 = 0 → ∀ t ∈ rcL T, t ∈ rcL S ∨ hB S 18 t = true) : NuI T M := by
  have hb : ∀ t, hB T 18 t = hB S 18 t := fun t => hB_eq (fun j => h18 _ _ (by omega) (by omega)) t
  refine ⟨(h1 1 (by omega) (by omega) (by omega)).trans hI.1, fun q t ht => ?_, fun q => ?_⟩
  · rw [hb]; rw [h1 5 (by omega) (by omega) (by omega)] at q; exact hI.2.1 q t ht
  · rw [h1 5 (by omega) (by omega) (by omega)] at q
    obtain ⟨Y, O, ⟨a1, a2, a3, a4, a5, a6, a7, a8, a9, a10⟩, hY, hO, hrr⟩ := hI.2.2 q
    have eY : lsum (wN T) Y = lsum (wN S) Y := lsum_congr (fun t ht => hw t (a4 t ht))
    have eO : lsum (wN T) O = lsum (wN S) O := lsum_congr (fun t ht => hw t (a5 t ht))
    refine ⟨Y, O, ⟨a1.of (h18 _ _ (by omega) (by omega)) (fun j => h18 _ _ (by omega) (by omega)) (fun j => h18 _ _ (by omega) (by omega)), a2.of (h18 _ _ (by omega) (by omega)) (fun j => h18 _ _ (by omega) (by omega)) (fun j => h18 _ _ (by omega) (by omega)), a3, fun t ht => Nat.lt_of_lt_of_le (a4 t ht) hc, fun t ht => Nat.lt_of_lt_of_le (a5 t ht) hc, fun t ht => by rw [hb]; exact a6 t ht, ?_, ?_, a9.eq (fun u _ => h18 _ _ (by omega) (by omega)) (fun u hu => hw u (a4 u hu)), a10.eq (fun u _ => h18 _ _ (by omega) (by omega)) (fun u hu => hw u (a5 u hu))⟩, by rw [eY]; exact hY, by rw [eO]; exact hO, fun t ht => ?_⟩
    · rw [eY, h1 15 (by omega) (by omega) (by omega)]; exact a7
    · rw [eO, h1 16 (by omega) (by omega) (by omega)]; exact a8
    · rcases hr q t ht with z | z
      · exact hrr t z
      · exact (a6 t (Nat.lt_of_lt_of_le (rc_lt hT t ht) hT.2.1)).mp z
theorem NuI.po {S : St} {M : Nat} (hG : GW S) (hI : NuI S M) : PO S 18 M ∧ HC S 18 ∧ (S 18 5 = 0 → RH S 18) := by
  have h80 := hG.2.1
  by_cases h5 : S 18 5 = 0
  · obtain ⟨Y, O, hQ, hY, hO, hr⟩ := hI.2.2 h5
    have hRH := hQ.rh hG hr
    obtain ⟨a1, a2, a3, a4, a5, a6, a7, a8, a9, a10⟩ := hQ
    refine ⟨⟨fun t ht hh => ?_, fun t u ht hu htu h1 h2 => ?_⟩, fun t ht hh => ?_, fun _ => hRH⟩
    · rcases (a6 t (by omega)).mp hh with q | q
      · obtain ⟨b1, b2, b3⟩ := a9.1 t q
        exact ⟨b1, by omega⟩
      · obtain ⟨b1, b2, b3⟩ := a10.1 t q
        exact ⟨b1, by omega⟩
    · rcases (a6 t (by omega)).mp h1 with q | q
      · rcases (a6 u (by omega)).mp h2 with r | r
        · exact a9.2 t q u r htu
        · have := (a9.1 t q).2.2; have := (a10.1 u r).2.1; left; omega
      · rcases (a6 u (by omega)).mp h2 with r | r
        · have := (a9.1 u r).2.2; have := (a10.1 t q).2.1; right; omega
        · exact a10.2 t q u r htu
    · exact ((a6 t ht).mp hh).elim (a4 t) (a5 t)
  · have hno := hI.2.1 h5
    refine ⟨⟨fun t ht hh => ?_, fun t u ht hu htu h1 h2 => ?_⟩, fun t ht hh => ?_, fun q => absurd q h5⟩
    · rw [hno t (by omega)] at hh; cases hh
    · rw [hno t (by omega)] at h1; cases h1
    · rw [hno t ht] at hh; cases hh
