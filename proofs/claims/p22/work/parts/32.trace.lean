/-! what is reached -/
def rtsF (S : St) (v : Int32) (i : Nat) : List (Option Nat) := (List.range' i (6 - i)).map (fun r => if nI r = v then none else rtO S r)
theorem rtsF_cons {S : St} {v : Int32} {i : Nat} (h : i < 6) : rtsF S v i = (if nI i = v then none else rtO S i) :: rtsF S v (i + 1) := by
  unfold rtsF
  rw [show 6 - i = (6 - (i + 1)) + 1 by omega, List.range'_succ]; rfl
theorem rtsF_eq {S T : St} (e : GEq S T) (v : Int32) (i : Nat) : rtsF T v i = rtsF S v i := by
  unfold rtsF
  have : rtO T = rtO S := funext fun r => e.r r
  rw [this]
theorem s_tr6 {q : Nat} (hq : 5 < q) (v : Int32) : ∀ (n i : Nat) (S : St) (L : List Nat), GW S → RowIs S q L → i ≤ 6 → 6 - i < n → ∃ T, m_Gr_trace_L6 q n S v (nI i) = some T ∧ Fr (rowP q) S T ∧ RowIs T q (addsL L (rtsF S v i)) := by
  intro n
  induction n with
  | zero => intro i S L _ _ h1 h2; omega
  | succ n ih =>
    intro i S L hG hR h1 h2
    rw [m_Gr_trace_L6]
    by_cases hi : i = 6
    · subst hi
      exact ⟨S, if_pos (by decide), Fr.rfl', hR⟩
    · rw [if_neg (by rw [show (6 : Int32) = nI 6 from rfl, n_le (by omega) (by omega)]; omega), rtsF_cons (by omega)]
      by_cases hv : nI i = v
      · rw [if_pos hv, if_pos hv, nI_1]
        exact ih (i + 1) S L hG hR (by omega) (by omega)
      · rw [if_neg hv, if_neg hv, oi_t (n_in (by omega) (by omega)), n_cl (by omega), (hG.2.2.2 i (by omega)).1]
        obtain ⟨T1, e1, F1, R1⟩ := s_add hR (rtO S i) (hG.b_rt (by omega))
        rw [o1_e e1, nI_1]
        have g1 := GEq.row F1 hq
        obtain ⟨T2, e2, F2, R2⟩ := ih (i + 1) T1 _ (hG.eq g1) R1 (by omega) (by omega)
        refine ⟨T2, e2, F1.tr F2, ?_⟩
        rw [rtsF_eq g1] at R2
        exact R2
def trL (S : St) (v : Int32) : List Nat := clo (kids S) 80 0 (addsL [] (rtsF S v 0))
def rcL (S : St) : List Nat := trL S (-1)
theorem trL_eq {S T : St} (e : GEq S T) (v : Int32) : trL T v = trL S v := by unfold trL; rw [kids_eq e, rtsF_eq e]
theorem rcL_eq {S T : St} (e : GEq S T) : rcL T = rcL S := trL_eq e _
theorem s_trace {q : Nat} (hq : 5 < q) {S : St} (hG : GW S) (v : Int32) : ∃ T, m_Gr_trace q S v = some T ∧ Fr (rowP q) S T ∧ RowIs T q (trL S v) := by
  obtain ⟨T0, e0, F0, R0⟩ := s_empty q S
  have g0 := GEq.row F0 hq
  obtain ⟨T1, e1, F1, R1⟩ := s_tr6 hq v 200 0 T0 [] (hG.eq g0) R0 (by omega) (by omega)
  have g1 := GEq.row F1 hq
  obtain ⟨T2, e2, F2, R2⟩ := s_clo hq 200 0 T1 _ ((hG.eq g0).eq g1) R1 (by omega) (by omega)
  unfold m_Gr_trace
  rw [o1_e e0, o1_e (show m_Gr_trace_L6 q 200 T0 v 0 = some T1 from e1), o1_e (show m_Gr_trace_L35 q 200 T1 0 = some T2 from e2)]
  refine ⟨T2, rfl, (F0.tr F1).tr F2, ?_⟩
  rw [kids_eq g1, kids_eq g0, rtsF_eq g0] at R2
  exact R2
theorem mem_rts {S : St} {t : Nat} : some t ∈ rtsF S (-1) 0 ↔ ∃ r, r < 6 ∧ rtO S r = some t := by
  unfold rtsF
  simp only [List.mem_map, List.mem_range'_1]
  constructor
  · rintro ⟨r, ⟨-, h2⟩, h3⟩
    rw [if_neg (m1_ne (by omega))] at h3
    exact ⟨r, by omega, h3⟩
  · rintro ⟨r, h1, h2⟩
    exact ⟨r, ⟨Nat.zero_le _, by omega⟩, by rw [if_neg (m1_ne (by omega))]; exact h2⟩
theorem rt0_mem {S : St} {t : Nat} : t ∈ addsL [] (rtsF S (-1) 0) ↔ ∃ r, r < 6 ∧ rtO S r = some t := by
  rw [mem_addsL, mem_rts]; simp
theorem rc_min {S : St} (P : Nat → Prop) (h0 : ∀ r t, r < 6 → rtO S r = some t → P t) (hK : ∀ t, P t → ∀ u, some u ∈ kids S t → P u) : ∀ t ∈ rcL S, P t :=
  clo_min (kids S) P hK 80 0 _ (fun t ht => by
    obtain ⟨r, h1, h2⟩ := rt0_mem.mp ht
    exact h0 r t h1 h2)
theorem rc_lt {S : St} (h : GW S) : ∀ t ∈ rcL S, t < cN S :=
  rc_min (fun t => t < cN S) (fun r t h1 h2 => (h.2.2.2 r h1).2 t h2) (fun _ _ u hu => kids_lt h hu)
theorem rt0_nodup (S : St) (v : Int32) : (addsL [] (rtsF S v 0)).Nodup := addsL_nodup List.nodup_nil
theorem rc_nodup (S : St) : (rcL S).Nodup := clo_nodup _ _ _ _ (rt0_nodup S _)
theorem rc_root {S : St} {r t : Nat} (h1 : r < 6) (h2 : rtO S r = some t) : t ∈ rcL S := by
  obtain ⟨M, e⟩ := clo_pre (kids S) 80 0 (addsL [] (rtsF S (-1) 0))
  show t ∈ clo (kids S) 80 0 (addsL [] (rtsF S (-1) 0))
  rw [e]
  exact List.mem_append_left _ (rt0_mem.mpr ⟨r, h1, h2⟩)
theorem rt0_lt {S : St} (h : GW S) : ∀ t ∈ addsL [] (rtsF S (-1) 0), t < 80 := fun t ht => by
  obtain ⟨r, h1, h2⟩ := rt0_mem.mp ht
  exact h.b_rt h1 t h2
theorem rc_kid {S : St} (h : GW S) {t u : Nat} (ht : t ∈ rcL S) (hu : some u ∈ kids S t) : u ∈ rcL S :=
  clo_closed (kids S) 80 (fun _ _ q => Nat.lt_of_lt_of_le (kids_lt h q) h.2.1) 80 0 _ (rt0_nodup S _) (rt0_lt h) (by omega) (fun j hj => by omega) t ht u hu
theorem rc_same {S T : St} (hr : ∀ r, r < 6 → rtO T r = rtO S r) (hS : GW S) (hT : GW T) (hk : ∀ t, t < cN S → ∀ u, (some u ∈ kids T t ↔ some u ∈ kids S t)) (t : Nat) : t ∈ rcL T ↔ t ∈ rcL S := by
  constructor
  · intro h
    exact (rc_min (S := T) (fun t => t ∈ rcL S) (fun r t h1 h2 => rc_root h1 ((hr r h1) ▸ h2)) (fun t ht u hu => rc_kid hS ht ((hk t (rc_lt hS t ht) u).mp hu)) t h)
  · intro h
    exact (rc_min (S := S) (fun t => t < cN S ∧ t ∈ rcL T) (fun r t h1 h2 => ⟨(hS.2.2.2 r h1).2 t h2, rc_root h1 ((hr r h1).symm ▸ h2)⟩) (fun t ht u hu => ⟨kids_lt hS hu, rc_kid hT ht.2 ((hk t ht.1 u).mpr hu)⟩) t h).2
/-! where a member of such a list comes from -/
theorem clo_src (K : Nat → List (Option Nat)) (P : Nat → Prop) : ∀ (n i : Nat) (L : List Nat), (∀ (j t : Nat), L[j]? = some t → P t ∨ ∃ (a x : Nat), a < j ∧ L[a]? = some x ∧ some t ∈ K x) →
    ∀ (j t : Nat), (clo K n i L)[j]? = some t → P t ∨ ∃ (a x : Nat), a < j ∧ (clo K n i L)[a]? = some x ∧ some t ∈ K x := by
  intro n
  induction n with
  | zero => intro i L h; exact h
  | succ n ih =>
    intro i L h
    cases hi : L[i]? with
    | none => rw [clo_n K _ _ _ hi]; exact h
    | some x =>
      rw [clo_s K _ _ _ hi]
      obtain ⟨M, e⟩ := addsL_pre (l := K x) L
      have hil := (List.getElem?_eq_some_iff.mp hi).1
      refine ih (i + 1) _ (fun j t hj => ?_)
      by_cases hjl : j < L.length
      · rw [e, List.getElem?_append_left hjl] at hj
        rcases h j t hj with q | ⟨a, y, ha, hy, hk⟩
        · exact Or.inl q
        · refine Or.inr ⟨a, y, ha, ?_, hk⟩
          rw [e, List.getElem?_append_left (by omega)]; exact hy
      · by_cases hm : t ∈ L
        · obtain ⟨b, hb⟩ := List.getElem?_of_mem hm
          have hbl := (List.getElem?_eq_some_iff.mp hb).1
          rcases h b t hb with q | ⟨a, y, ha, hy, hk⟩
          · exact Or.inl q
          · refine Or.inr ⟨a, y, by omega, ?_, hk⟩
            rw [e, List.getElem?_append_left (by omega)]; exact hy
        · have := mem_addsL.mp (List.mem_of_getElem? hj)
          refine Or.inr ⟨i, x, by omega, ?_, this.resolve_left hm⟩
          rw [e, List.getElem?_append_left hil]; exact hi
theorem rc_src {S : St} {j t : Nat} (h : (rcL S)[j]? = some t) : (∃ r, r < 6 ∧ rtO S r = some t) ∨ ∃ a x, a < j ∧ (rcL S)[a]? = some x ∧ some t ∈ kids S x :=
  clo_src (kids S) (fun t => ∃ r, r < 6 ∧ rtO S r = some t) 80 0 _ (fun j t hj => Or.inl (rt0_mem.mp (List.mem_of_getElem? hj))) j t h
/-! distances -/
theorem s_fill_L (q : Nat) (v : Int32) : ∀ (n i : Nat) (S : St), i ≤ 80 → 80 - i < n → ∃ T, m_Arr_fill_80_L5 q n S v (nI i) 80 = some T ∧ Fr (fun a _ => a = q) S T ∧ (∀ j, j < 80 → i ≤ j → T q j = v) ∧ ∀ j, j < i → T q j = S q j := by
  intro n
  induction n with
  | zero => intro i S h1 h2; omega
  | succ n ih =>
    intro i S h1 h2
    rw [m_Arr_fill_80_L5]
    by_cases hi : i = 80
    · subst hi
      exact ⟨S, if_pos (by decide), Fr.rfl', fun j h3 h4 => by omega, fun j _ => rfl⟩
    · rw [if_neg (by rw [show (80 : Int32) = nI 80 from rfl, n_le (by omega) (by omega)]; omega), oi_t (n_in (by omega) (by omega)), nI_1, n_cl (by omega)]
      obtain ⟨T, e, hF, h3, h4⟩ := ih (i + 1) (u2 S q i v) (by omega) (by omega)
      refine ⟨T, e, ((Fr.u2 S q i v).mono (fun a j h => h.1)).tr hF, fun j h5 h6 => ?_, fun j h5 => ?_⟩
      · by_cases hj : j = i
        · subst hj; rw [h4 j (by omega), u2_e]
        · exact h3 j h5 (by omega)
      · rw [h4 j (by omega), u2_n (by omega)]
theorem s_fill (q : Nat) (v : Int32) (S : St) : ∃ T, m_Arr_fill_80 q S v = some T ∧ Fr (fun a _ => a = q) S T ∧ ∀ j, j < 80 → T q j = v := by
  obtain ⟨T, e, F, h, -⟩ := s_fill_L q v 200 0 S (by omega) (by omega)
  unfold m_Arr_fill_80
  rw [o1_e (show m_Arr_fill_80_L5 q 200 S v 0 80 = some T from e)]
  exact ⟨T, rfl, F, fun j hj => h j hj (Nat.zero_le _)⟩
theorem s_m19 : ∀ (n i : Nat) (S : St), GW S → i ≤ 6 → 6 - i < n → ∃ T, m_Gr_measure_L19 n S (nI i) = some T ∧ Fr (fun a _ => a = 5) S T ∧ ∀ t, t < 80 → ((∃ r, i ≤ r ∧ r < 6 ∧ rtO S r = some t) → T 5 t = 0) ∧ ((¬ ∃ r, i ≤ r ∧ r < 6 ∧ rtO S r = some t) → T 5 t = S 5 t) := by
  intro n
  induction n with
  | zero => intro i S _ h1 h2; omega
  | succ n ih =>
    intro i S hG h1 h2
    rw [m_Gr_measure_L19]
    by_cases hi : i = 6
    · subst hi
      exact ⟨S, if_pos (by decide), Fr.rfl', fun t _ => ⟨fun ⟨r, a, b, _⟩ => by omega, fun _ => rfl⟩⟩
    · rw [if_neg (by rw [show (6 : Int32) = nI 6 from rfl, n_le (by omega) (by omega)]; omega), oi_t (n_in (by omega) (by omega))]
      simp only [n_cl (show i < 2147483648 by omega)]
      rw [(hG.2.2.2 i (by omega)).1, o1_e (s_isThing hG _ (hG.b_rt (by omega))), nI_1]
      cases hr : rtO S i with
      | none =>
        rw [if_pos (show zb (isT S none) = 0 from rfl)]
        obtain ⟨T, e, F, h⟩ := ih (i + 1) S hG (by omega) (by omega)
        refine ⟨T, e, F, fun t ht => ⟨fun ⟨r, a, b, c⟩ => (h t ht).1 ⟨r, ?_, b, c⟩, fun hn => (h t ht).2 (fun ⟨r, a, b, c⟩ => hn ⟨r, by omega, b, c⟩)⟩⟩
        have : r ≠ i := fun q => by subst q; rw [hr] at c; cases c
        omega
      | some u =>
        have hu := (hG.2.2.2 i (by omega)).2 u hr
        have h80 := hG.2.1
        rw [if_neg (by rw [isT_s, decide_eq_true hu]; decide), oi_t (n_in (by omega) (by omega)), oI_s, oi_t (n_in (by omega) (by omega))]
        simp only [n_cl (show u < 2147483648 by omega)]
        have g := GEq.of (Fr.u2 S 5 u 0) (fun a j q => by omega)
        obtain ⟨T, e, F, h⟩ := ih (i + 1) (u2 S 5 u 0) (hG.eq g) (by omega) (by omega)
        refine ⟨T, e, ((Fr.u2 S 5 u 0).mono (fun a j h => h.1)).tr F, fun t ht => ?_⟩
        have ht' := h t ht
        simp only [g.r] at ht'
        by_cases hx : ∃ r, i + 1 ≤ r ∧ r < 6 ∧ rtO S r = some t
        · have h0 := ht'.1 hx
          obtain ⟨r, a, b, c⟩ := hx
          exact ⟨fun _ => h0, fun hn => absurd ⟨r, by omega, b, c⟩ hn⟩
        · have h0 := ht'.2 hx
          refine ⟨fun ⟨r, a, b, c⟩ => ?_, fun hn => ?_⟩
          · have : r = i := by
              by_cases q : r = i
              · exact q
              · exact absurd ⟨r, by omega, b, c⟩ hx
            subst this
            rw [hr] at c
            cases c
            rw [h0, u2_e]
          · rw [h0, u2_n (fun q => hn ⟨i, by omega, by omega, by rw [hr, q.2]⟩)]
theorem s_m10 (x : Nat) (hx : x < 80) (e : Nat) (he : e < 1000) : ∀ (n i : Nat) (S : St), GW S → i ≤ 3 → 3 - i < n → ∃ T, m_Gr_measureNamedBy_L10 n S (nI x) (nI e) (nI i) = some T ∧ Fr (fun a _ => a = 5) S T ∧
    ∀ t, t < 80 → (T 5 t = S 5 t ∧ (S 5 t = -1 → some t ∉ kidsF S (some x) i)) ∨ (S 5 t = -1 ∧ T 5 t = nI e ∧ some t ∈ kidsF S (some x) i) := by
  intro n
  induction n with
  | zero => intro i S _ h1 h2; omega
  | succ n ih =>
    intro i S hG h1 h2
    have hf := fO_le hG (some x)
    have hbx : B80 (some x) := fun u hu => by cases hu; exact hx
    rw [m_Gr_measureNamedBy_L10, ← oI_s x, o1_e (s_fieldsOf hG (some x) hbx)]
    by_cases hi : fO S (some x) ≤ i
    · rw [if_pos (by rw [n_le (by omega) (by omega)]; exact hi), kidsF_end hi]
      exact ⟨S, rfl, Fr.rfl', fun t _ => Or.inl ⟨rfl, fun _ h => by cases h⟩⟩
    · have hnq : B80 (nmQ S (some x) i) := fun u hu => Nat.lt_of_lt_of_le (hG.b_nq _ i u hu) hG.2.1
      rw [if_neg (by rw [n_le (by omega) (by omega)]; exact hi), o1_e (s_nameOf hG (some x) hbx i (by omega)), o1_e (s_isThing hG _ hnq), nI_1, kidsF_cons (by omega), oI_s x]
      cases hq : nmQ S (some x) i with
      | none =>
        rw [if_pos (show zb (isT S none) = 0 from rfl)]
        obtain ⟨T, e1, F, h⟩ := ih (i + 1) S hG (by omega) (by omega)
        refine ⟨T, e1, F, fun t ht => ?_⟩
        rcases h t ht with ⟨a, b⟩ | ⟨a, b, c⟩
        · refine Or.inl ⟨a, fun q hm => ?_⟩
          rcases List.mem_cons.mp hm with z | z
          · cases z
          · exact b q z
        · exact Or.inr ⟨a, b, List.mem_cons_of_mem _ c⟩
      | some u =>
        have hu := hG.b_nq _ i u hq
        have h80 := hG.2.1
        rw [if_neg (by rw [isT_s, decide_eq_true hu]; decide), oI_s, oi_t (n_in (by omega) (by omega))]
        simp only [n_cl (show u < 2147483648 by omega)]
        by_cases hd : S 5 u = -1
        · rw [if_pos hd, oi_t (n_in (by omega) (by omega))]
          have g := GEq.of (Fr.u2 S 5 u (nI e)) (fun a j q => by omega)
          obtain ⟨T, e1, F, h⟩ := ih (i + 1) (u2 S 5 u (nI e)) (hG.eq g) (by omega) (by omega)
          refine ⟨T, e1, ((Fr.u2 S 5 u (nI e)).mono (fun a j h => h.1)).tr F, fun t ht => ?_⟩
          have ht' := h t ht
          rw [kidsF_eq g] at ht'
          by_cases htu : t = u
          · subst htu
            rw [u2_e] at ht'
            rcases ht' with ⟨a, b⟩ | ⟨a, b, c⟩
            · exact Or.inr ⟨hd, a, List.mem_cons_self⟩
            · exact absurd a (m1_ne (by omega))
          · rw [u2_n (fun q => htu q.2)] at ht'
            rcases ht' with ⟨a, b⟩ | ⟨a, b, c⟩
            · refine Or.inl ⟨a, fun q hm => ?_⟩
              rcases List.mem_cons.mp hm with z | z
              · cases z; exact htu rfl
              · exact b q z
            · exact Or.inr ⟨a, b, List.mem_cons_of_mem _ c⟩
        · rw [if_neg hd]
          obtain ⟨T, e1, F, h⟩ := ih (i + 1) S hG (by omega) (by omega)
          refine ⟨T, e1, F, fun t ht => ?_⟩
          rcases h t ht with ⟨a, b⟩ | ⟨a, b, c⟩
          · refine Or.inl ⟨a, fun q hm => ?_⟩
            rcases List.mem_cons.mp hm with z | z
            · cases z; exact hd q
            · exact b q z
          · exact Or.inr ⟨a, b, List.mem_cons_of_mem _ c⟩
theorem s_distanceOf {S : St} (h : GW S) {t : Nat} (ht : t < cN S) : m_Gr_distanceOf S (nI t) = some (S 5 t) := by
  have h80 := h.2.1
  unfold m_Gr_distanceOf
  rw [← oI_s t, o1_e (s_isThing h (some t) (fun u hu => by cases hu; omega)), if_neg (by rw [isT_s, decide_eq_true ht]; decide), oI_s, oi_t (n_in (by omega) (by omega)), n_cl (by omega)]
theorem s_mNB {S : St} (hG : GW S) {x : Nat} (hx : x < cN S) {d : Nat} (hd : d < 900) (hx5 : S 5 x = nI d) : ∃ T, m_Gr_measureNamedBy S (nI x) = some T ∧ Fr (fun a _ => a = 5) S T ∧
    ∀ t, t < 80 → (T 5 t = S 5 t ∧ (S 5 t = -1 → some t ∉ kids S x)) ∨ (S 5 t = -1 ∧ T 5 t = nI (d + 1) ∧ some t ∈ kids S x) := by
  have h80 := hG.2.1
  obtain ⟨T, e, F, h⟩ := s_m10 x (by omega) (d + 1) (by omega) 200 0 S hG (by omega) (by omega)
  unfold m_Gr_measureNamedBy
  rw [o1_e (s_distanceOf hG hx), hx5, nI_1, o1_e (show m_Gr_measureNamedBy_L10 200 S (nI x) (nI (d + 1)) 0 = some T from e)]
  exact ⟨T, rfl, F, h⟩
theorem s_m58 (R : List Nat) (P : Nat → Prop) : ∀ (n i : Nat) (S : St), GW S → RowIs S 6 R → R = rcL S → i ≤ R.length → R.length - i < n →
    (∀ t, t < 80 → S 5 t = -1 ∨ ∃ d, d ≤ i ∧ S 5 t = nI d ∧ t ∈ R ∧ (d = 0 → P t)) → (∀ r t, r < 6 → rtO S r = some t → S 5 t ≠ -1) → (∀ j x, j < i → R[j]? = some x → ∀ u, some u ∈ kids S x → S 5 u ≠ -1) →
    ∃ T, m_Gr_measure_L58 n S (nI i) = some T ∧ Fr (fun a _ => a = 5) S T ∧ (∀ t, t < 80 → (T 5 t ≠ -1 ↔ t ∈ R)) ∧ ∀ t, t < 80 → T 5 t = 0 → P t := by
  intro n
  induction n with
  | zero => intro i S _ _ _ h1 h2; omega
  | succ n ih =>
    intro i S hG hR hRe h1 h2 hA hB hC
    have hlen := hR.len
    rw [m_Gr_measure_L58, hR.2.2.1]
    have good : ∀ j x, j ≤ i → R[j]? = some x → S 5 x ≠ -1 := by
      intro j x hj hx
      rw [hRe] at hx
      rcases rc_src hx with ⟨r, a, b⟩ | ⟨a, y, q1, q2, q3⟩
      · exact hB r x a b
      · rw [← hRe] at q2
        exact hC a y (by omega) q2 x q3
    by_cases hi : R.length ≤ i
    · rw [if_pos (by rw [n_le (by omega) (by omega)]; exact hi)]
      refine ⟨S, rfl, Fr.rfl', fun t ht => ⟨fun h => ?_, fun h => ?_⟩, fun t ht h0 => ?_⟩
      · rcases hA t ht with q | ⟨d, _, _, q, _⟩
        · exact absurd q h
        · exact q
      · obtain ⟨j, hj⟩ := List.getElem?_of_mem h
        have hjl := (List.getElem?_eq_some_iff.mp hj).1
        exact good j t (by omega) hj
      · rcases hA t ht with q | ⟨d, q0, q1, _, q2⟩
        · rw [q] at h0; exact absurd h0 (by decide)
        · rw [q1, show (0 : Int32) = nI 0 from rfl, n_eq (by omega) (by omega)] at h0
          exact q2 h0
    · rw [if_neg (by rw [n_le (by omega) (by omega)]; exact hi), o1_e (s_get hR i (by omega))]
      obtain ⟨x, hx⟩ : ∃ x, R[i]? = some x := ⟨R[i]'(by omega), List.getElem?_eq_getElem (by omega)⟩
      have hxR := List.mem_of_getElem? hx
      have hxc : x < cN S := rc_lt hG x (hRe ▸ hxR)
      have hx5 := good i x (Nat.le_refl _) hx
      obtain ⟨d, hd1, hd2, -, -⟩ := (hA x (hR.2.1 x hxR)).resolve_left hx5
      obtain ⟨T, e, F, h⟩ := s_mNB hG hxc (by omega) hd2
      rw [hx, oI_s, o1_e e, nI_1]
      have g := GEq.of F (fun a j q => by omega)
      have key : ∀ t, t < 80 → S 5 t ≠ -1 → T 5 t ≠ -1 := by
        intro t ht q
        rcases h t ht with ⟨a, _⟩ | ⟨a, _⟩
        · rw [a]; exact q
        · exact absurd a q
      have p1 : ∀ t, t < 80 → T 5 t = -1 ∨ ∃ d, d ≤ i + 1 ∧ T 5 t = nI d ∧ t ∈ R ∧ (d = 0 → P t) := by
        intro t ht
        rcases h t ht with ⟨a, _⟩ | ⟨_, a, b⟩
        · rw [a]
          rcases hA t ht with q | ⟨d', q0, q1, q2, q3⟩
          · exact Or.inl q
          · exact Or.inr ⟨d', by omega, q1, q2, q3⟩
        · refine Or.inr ⟨d + 1, by omega, a, ?_, fun z => by omega⟩
          rw [hRe] at hxR ⊢
          exact rc_kid hG hxR b
      have p2 : ∀ r t, r < 6 → rtO T r = some t → T 5 t ≠ -1 := by
        intro r t h5 h6
        rw [g.r] at h6
        exact key t (hG.b_rt h5 t h6) (hB r t h5 h6)
      have p3 : ∀ j x, j < i + 1 → R[j]? = some x → ∀ u, some u ∈ kids T x → T 5 u ≠ -1 := by
        intro j y hj hy u hu
        rw [kids_eq g] at hu
        have hu8 : u < 80 := Nat.lt_of_lt_of_le (kids_lt hG hu) hG.2.1
        by_cases hji : j = i
        · subst hji
          rw [hx] at hy
          cases hy
          rcases h u hu8 with ⟨a, b⟩ | ⟨_, a, _⟩
          · rw [a]; exact fun z => b z hu
          · rw [a]; exact m1_ne (by omega)
        · exact key u hu8 (hC j y (by omega) hy u hu)
      obtain ⟨U, e2, F2, h3, h4⟩ := ih (i + 1) T (hG.eq g) (hR.fr F (fun a j q z => by unfold rowP at q; omega)) (hRe.trans (rcL_eq g).symm) (by omega) (by omega) p1 p2 p3
      exact ⟨U, e2, F.tr F2, h3, h4⟩
def GI (S : St) : Prop := GW S ∧ (∀ t, t < cN S → (S 5 t ≠ -1 ↔ t ∈ rcL S)) ∧ ∀ t, t < cN S → S 5 t = 0 → ∃ r, r < 6 ∧ rtO S r = some t
theorem s_measure {S : St} (hG : GW S) : ∃ T, m_Gr_measure S = some T ∧ Fr (fun a j => a = 5 ∨ rowP 6 a j) S T ∧ GI T := by
  obtain ⟨T1, e1, F1, R1⟩ := s_trace (q := 6) (by omega) hG (-1)
  have g1 := GEq.row F1 (by omega)
  obtain ⟨T2, e2, F2, h2⟩ := s_fill 5 (-1) T1
  have g2 := GEq.of F2 (fun a j q => by omega)
  obtain ⟨T3, e3, F3, h3⟩ := s_m19 200 0 T2 ((hG.eq g1).eq g2) (by omega) (by omega)
  have g3 := GEq.of F3 (fun a j q => by omega)
  have gg := (g1.trans g2).trans g3
  have R2 : RowIs T2 6 (trL S (-1)) := R1.fr F2 (fun a j q z => by unfold rowP at q; omega)
  have R3 : RowIs T3 6 (trL S (-1)) := R2.fr F3 (fun a j q z => by unfold rowP at q; omega)
  have hlen := R3.len
  have q1 : ∀ t, t < 80 → T3 5 t = -1 ∨ ∃ d, d ≤ 0 ∧ T3 5 t = nI d ∧ t ∈ trL S (-1) ∧ (d = 0 → ∃ r, r < 6 ∧ rtO S r = some t) := by
    intro t ht
    have q := h3 t ht
    by_cases hr : ∃ r, 0 ≤ r ∧ r < 6 ∧ rtO T2 r = some t
    · obtain ⟨r, a, b, c⟩ := hr
      have : rtO S r = some t := by rw [← g1.r, ← g2.r]; exact c
      refine Or.inr ⟨0, Nat.le_refl _, q.1 ⟨r, a, b, c⟩, rc_root b this, fun _ => ⟨r, b, this⟩⟩
    · exact Or.inl ((q.2 hr).trans (h2 t ht))
  have q2 : ∀ r t, r < 6 → rtO T3 r = some t → T3 5 t ≠ -1 := by
    intro r t h5 h6
    have q : rtO T2 r = some t := by rw [← g3.r]; exact h6
    have ht : t < 80 := hG.b_rt h5 t (by rw [← g1.r, ← g2.r]; exact q)
    rw [(h3 t ht).1 ⟨r, Nat.zero_le _, h5, q⟩]
    decide
  obtain ⟨T4, e4, F4, h4, h5⟩ := s_m58 (trL S (-1)) (fun t => ∃ r, r < 6 ∧ rtO S r = some t) 200 0 T3 (hG.eq gg) R3 (rcL_eq gg).symm (Nat.zero_le _) (by omega) q1 q2 (fun j x hj => by omega)
  have g4 := GEq.of F4 (fun a j q => by omega)
  unfold m_Gr_measure
  rw [o1_e e1, o1_e e2, o1_e (show m_Gr_measure_L19 200 T2 0 = some T3 from e3), o1_e (show m_Gr_measure_L58 200 T3 0 = some T4 from e4)]
  have g5 := gg.trans g4
  refine ⟨T4, rfl, (F1.mono (fun a j q => Or.inr q)).tr (((F2.tr F3).tr F4).mono (fun a j q => Or.inl q)), hG.eq g5, fun t ht => ?_, fun t ht h0 => ?_⟩
  · rw [rcL_eq g5]
    rw [g5.c] at ht
    exact h4 t (Nat.lt_of_lt_of_le ht hG.2.1)
  · rw [g5.c] at ht
    obtain ⟨r, a, b⟩ := h5 t (Nat.lt_of_lt_of_le ht hG.2.1) h0
    exact ⟨r, a, by rw [g5.r]; exact b⟩
theorem GI.eq {S T : St} (h : GI S) (e : GEq S T) (h5 : ∀ j, T 5 j = S 5 j) : GI T := by
  refine ⟨h.1.eq e, fun t ht => ?_, fun t ht h0 => ?_⟩
  · rw [h5, rcL_eq e]; exact h.2.1 t (e.c ▸ ht)
  · rw [h5] at h0
    obtain ⟨r, a, b⟩ := h.2.2 t (e.c ▸ ht) h0
    exact ⟨r, a, by rw [e.r]; exact b⟩
theorem s_isReached {S : St} (h : GI S) {t : Nat} (ht : t < 80) : m_Gr_isReached S (nI t) = some (zb (decide (t ∈ rcL S))) := by
  have h80 := h.1.2.1
  unfold m_Gr_isReached
  rw [if_neg (n_nneg (by omega)), h.1.1]
  by_cases hc : t < cN S
  · rw [if_neg (by rw [n_le (by omega) (by omega)]; omega), oi_t (n_in (by omega) (by omega)), n_cl (by omega)]
    by_cases hd : S 5 t = -1
    · rw [if_pos hd, decide_eq_false (fun z => (h.2.1 t hc).mpr z hd)]; rfl
    · rw [if_neg hd, decide_eq_true ((h.2.1 t hc).mp hd)]; rfl
  · rw [if_pos (by rw [n_le (by omega) (by omega)]; omega), decide_eq_false (fun z => hc (rc_lt h.1 t z))]; rfl
theorem s_countLost {S : St} (h : GW S) (v : Int32) : ∃ T, m_Gr_countLostWithout S v = some (S 6 2 - nI (trL S v).length, T) ∧ Fr (rowP 9) S T := by
  obtain ⟨T, e, F, R⟩ := s_trace (q := 9) (by omega) h v
  unfold m_Gr_countLostWithout
  rw [o1_e e]
  refine ⟨T, ?_, F⟩
  rw [R.2.2.1, F 6 2 (by unfold rowP; omega)]
