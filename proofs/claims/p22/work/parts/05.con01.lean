theorem oi_some {γ : Type} {c : Prop} [Decidable c] {x : Option γ} {r : γ} (h : oi c x = some r) : c ∧ x = some r := by
  unfold oi at h
  split at h
  · exact ⟨by assumption, h⟩
  · cases h
set_option maxRecDepth 100000 in
theorem w_Arr_fill_6_4_L5 {G : Gx} (hi : qinj (gad G)) {X : Cx} (C : QC G X cJ7_fill_53178 4 RJ7 0 0 none) {Q : State → Prop} : ∀ (n : Nat) (S : St) (v1 : Int32) (v2 : Int32) (v3 : Int32) (zS : St), m_Arr_fill_6_L5 4 n S v1 v2 v3 = some zS → QW G X 4 Q 20 [] [] zS → QW G X 4 Q 5 [(0, .ref (gad G 4)), (1, .int v1), (2, .int v2), (3, .int v3)] [] S := by
  intro n
  induction n with
  | zero =>
    intro S v1 v2 v3 zS hm kk
    rw [m_Arr_fill_6_L5] at hm
    cases hm
  | succ n ih =>
    intro S v1 v2 v3 zS hm kk
    rw [m_Arr_fill_6_L5] at hm
    refine q_iload_n (pc := 5) C dJ7_fill_53178_5 rfl 2 rfl ?_
    refine q_iload_n (pc := 6) C dJ7_fill_53178_6 rfl 3 rfl ?_
    refine q_icmp_ge (pc := 7) (tgt := 20) C dJ7_fill_53178_7 (by decide) (fun c1 => ?_) (fun c1 => ?_)
    · replace hm := hm_t c1 hm
      cases hm
      refine q_lv (lv' := []) [] rfl ?_
      exact kk
    · replace hm := hm_f c1 hm
      refine q_aload_n (pc := 10) C dJ7_fill_53178_10 rfl 0 rfl ?_
      refine q_iload_n (pc := 11) C dJ7_fill_53178_11 rfl 2 rfl ?_
      refine q_iload_n (pc := 12) C dJ7_fill_53178_12 rfl 1 rfl ?_
      obtain ⟨b1, hm⟩ := oi_some hm
      refine q_iast (pc := 13) C (by decide) (fun _ => ce_4 _ _ _) (ty_4 _) b1 dJ7_fill_53178_13 ?_
      refine q_iinc (pc := 14) (k := 2) (v := (v2 + (1 : Int32))) (lv' := [(2, .int (v2 + (1 : Int32))), (0, .ref (gad G 4)), (1, .int v1), (3, .int v3)]) C dJ7_fill_53178_14 rfl rfl (by decide) rfl ?_
      refine q_goto (pc := 17) (tgt := 5) C dJ7_fill_53178_17 (by decide) ?_
      refine q_lv (lv' := [(0, .ref (gad G 4)), (1, .int v1), (2, .int (v2 + (1 : Int32))), (3, .int v3)]) [1, 2, 0, 3] rfl ?_
      exact ih _ _ _ _ _ hm kk
set_option maxRecDepth 100000 in
theorem c_Arr_fill_6_4 {G : Gx} (hi : qinj (gad G)) {S : St} {a1 : Int32} {zS : St} (hm : m_Arr_fill_6 4 S a1 = some zS) : QMet G yJ7_fill_53178 cJ7_fill_53178 4 none 0 0 [.ref (gad G 4), .int a1] S none zS := by
  refine q_entry (by decide +kernel) rfl hi (Nat.le_of_ble_eq_true rfl) ?_
  intro X C
  refine q_lv (lv' := [(0, .ref (gad G 4)), (1, .int a1)]) [0, 1] rfl ?_
  unfold m_Arr_fill_6 at hm
  refine q_iconst (pc := 0) (v := (0 : Int32)) C dJ7_fill_53178_0 (by decide) ?_
  refine q_istore_n (pc := 1) (lv' := [(2, .int (0 : Int32)), (0, .ref (gad G 4)), (1, .int a1)]) C dJ7_fill_53178_1 rfl (by decide) rfl ?_
  refine q_aload_n (pc := 2) C dJ7_fill_53178_2 rfl 1 rfl ?_
  refine q_alen (pc := 3) (v := (6 : Int32)) C (by decide) (ce_4 _ _ _) (ty_4 _) (by decide) dJ7_fill_53178_3 ?_
  refine q_istore_n (pc := 4) (lv' := [(3, .int (6 : Int32)), (2, .int (0 : Int32)), (0, .ref (gad G 4)), (1, .int a1)]) C dJ7_fill_53178_4 rfl (by decide) rfl ?_
  refine q_lv (lv' := [(0, .ref (gad G 4)), (1, .int a1), (2, .int (0 : Int32)), (3, .int (6 : Int32))]) [2, 3, 1, 0] rfl ?_
  obtain ⟨S1, h1, hm⟩ := o1_some hm
  refine w_Arr_fill_6_4_L5 hi C 200 _ _ _ _ _ h1 ?_
  cases hm
  exact q_vret (pc := 20) C dJ7_fill_53178_20
set_option maxRecDepth 100000 in
theorem w_Row_empty_6_L2 {G : Gx} (hi : qinj (gad G)) {X : Cx} (C : QC G X cX5_empty 2 RX5 0 0 none) {Q : State → Prop} : ∀ (n : Nat) (S : St) (v1 : Int32) (zS : St), m_Row_empty_L2 6 n S v1 = some zS → QW G X 2 Q 21 [(0, .ref (gad G 6))] [] zS → QW G X 2 Q 2 [(0, .ref (gad G 6)), (1, .int v1)] [] S := by
  intro n
  induction n with
  | zero =>
    intro S v1 zS hm kk
    rw [m_Row_empty_L2] at hm
    cases hm
  | succ n ih =>
    intro S v1 zS hm kk
    rw [m_Row_empty_L2] at hm
    refine q_iload_n (pc := 2) C dX5_empty_2 rfl 1 rfl ?_
    refine q_bipush (pc := 3) (v := (80 : Int32)) C dX5_empty_3 (by decide) ?_
    refine q_icmp_ge (pc := 5) (tgt := 21) C dX5_empty_5 (by decide) (fun c1 => ?_) (fun c1 => ?_)
    · replace hm := hm_t c1 hm
      cases hm
      refine q_lv (lv' := [(0, .ref (gad G 6))]) [0] rfl ?_
      exact kk
    · replace hm := hm_f c1 hm
      refine q_aload_n (pc := 8) C dX5_empty_8 rfl 0 rfl ?_
      refine q_get (pc := 9) (T := TX5) (v := .ref (gad G 8)) C (by decide) (ce_6 _ _ _) (ci := 5) rfl inlX5 (j := 1) (by decide) rfl tw_50 (Or.inl rfl) dX5_empty_9 ?_
      refine q_iload_n (pc := 12) C dX5_empty_12 rfl 1 rfl ?_
      refine q_iconst (pc := 13) (v := (0 : Int32)) C dX5_empty_13 (by decide) ?_
      obtain ⟨b1, hm⟩ := oi_some hm
      refine q_zast0 (pc := 14) C (by decide) (fun _ => ce_8 _ _ _) (ty_8 _) b1 dX5_empty_14 ?_
      refine q_iinc (pc := 15) (k := 1) (v := (v1 + (1 : Int32))) (lv' := [(1, .int (v1 + (1 : Int32))), (0, .ref (gad G 6))]) C dX5_empty_15 rfl rfl (by decide) rfl ?_
      refine q_goto (pc := 18) (tgt := 2) C dX5_empty_18 (by decide) ?_
      refine q_lv (lv' := [(0, .ref (gad G 6)), (1, .int (v1 + (1 : Int32)))]) [1, 0] rfl ?_
      exact ih _ _ _ hm kk
set_option maxRecDepth 100000 in
theorem c_Row_empty_6 {G : Gx} (hi : qinj (gad G)) {S : St}  {zS : St} (hm : m_Row_empty 6 S  = some zS) : QMet G yX5_empty cX5_empty 2 none 0 0 [.ref (gad G 6)] S none zS := by
  refine q_entry (by decide +kernel) rfl hi (Nat.le_of_ble_eq_true rfl) ?_
  intro X C
  refine q_lv (lv' := [(0, .ref (gad G 6))]) [0] rfl ?_
  unfold m_Row_empty at hm
  refine q_iconst (pc := 0) (v := (0 : Int32)) C dX5_empty_0 (by decide) ?_
  refine q_istore_n (pc := 1) (lv' := [(1, .int (0 : Int32)), (0, .ref (gad G 6))]) C dX5_empty_1 rfl (by decide) rfl ?_
  refine q_lv (lv' := [(0, .ref (gad G 6)), (1, .int (0 : Int32))]) [1, 0] rfl ?_
  obtain ⟨S1, h1, hm⟩ := o1_some hm
  refine w_Row_empty_6_L2 hi C 200 _ _ _ h1 ?_
  refine q_aload_n (pc := 21) C dX5_empty_21 rfl 0 rfl ?_
  refine q_iconst (pc := 22) (v := (0 : Int32)) C dX5_empty_22 (by decide) ?_
  refine q_put (pc := 23) (T := TX5) (ty := .int) C tyX5 tyX5_ok nmX5 (by decide) (ce_6 _ _ _) (pe_6_2 _ _ _ _) (ci := 5) rfl inlX5 (j := 2) (by decide) (Nat.le_of_ble_eq_true rfl) tw_127 (Or.inl rfl) rfl (by decide +kernel) rfl rfl dX5_empty_23 ?_
  cases hm
  exact q_vret (pc := 26) C dX5_empty_26
set_option maxRecDepth 100000 in
theorem c_Gr_startAnew {G : Gx} (hi : qinj (gad G)) {S : St}  {zS : St} (hm : m_Gr_startAnew S  = some zS) : QMet G yX2_startAnew cX2_startAnew 1 none 1 23 [.ref (gad G 1)] S none zS := by
  refine q_entry (by decide +kernel) rfl hi (Nat.le_of_ble_eq_true rfl) ?_
  intro X C
  refine q_lv (lv' := [(0, .ref (gad G 1))]) [0] rfl ?_
  unfold m_Gr_startAnew at hm
  refine q_aload_n (pc := 0) C dX2_startAnew_0 rfl 0 rfl ?_
  refine q_iconst (pc := 1) (v := (0 : Int32)) C dX2_startAnew_1 (by decide) ?_
  refine q_put (pc := 2) (T := TX2) (ty := .int) C tyX2 tyX2_ok nmX2 (by decide) (ce_1 _ _ _) (pe_1_6 _ _ _ _) (ci := 2) rfl inlX2 (j := 6) (by decide) (Nat.le_of_ble_eq_true rfl) tw_118 (Or.inl rfl) rfl (by decide +kernel) rfl rfl dX2_startAnew_2 ?_
  refine q_aload_n (pc := 5) C dX2_startAnew_5 rfl 0 rfl ?_
  refine q_get (pc := 6) (T := TX2) (v := .ref (gad G 4)) C (by decide) (ce_1 _ _ _) (ci := 2) rfl inlX2 (j := 2) (by decide) rfl tw_39 (Or.inl rfl) dX2_startAnew_6 ?_
  refine q_iconst (pc := 9) (v := (-1 : Int32)) C dX2_startAnew_9 (by decide) ?_
  obtain ⟨S1, h1, hm⟩ := o1_some hm
  refine q_callS (pc := 10) (As := [.ref (gad G 4), .int (-1 : Int32)]) (rest := []) C (c_Arr_fill_6_4 hi h1) tw_119 tw_120 tw_121 tw_122 (nA := 2) (by decide +kernel) rfl (by decide) (Nat.le_of_ble_eq_true rfl) rfl dX2_startAnew_10 ?_
  refine q_aload_n (pc := 13) C dX2_startAnew_13 rfl 0 rfl ?_
  refine q_get (pc := 14) (T := TX2) (v := .ref (gad G 6)) C (by decide) (ce_1 _ _ _) (ci := 2) rfl inlX2 (j := 4) (by decide) rfl tw_44 (Or.inl rfl) dX2_startAnew_14 ?_
  obtain ⟨S2, h2, hm⟩ := o1_some hm
  refine q_callV (pc := 17) (k := 6) (As := []) (rest := []) (T := TX5) C (c_Row_empty_6 hi h2) (by decide) (ce_6 _ _ _) (ci := 5) rfl tw_123 tw_124 tw_125 tw_43 tw_126 (nA := 0) (by decide +kernel) rfl (by decide) (Nat.le_of_ble_eq_true rfl) rfl dX2_startAnew_17 ?_
  cases hm
  exact q_vret (pc := 20) C dX2_startAnew_20
set_option maxRecDepth 100000 in
theorem w_St_letAllGo_12_L2 {G : Gx} (hi : qinj (gad G)) {X : Cx} (C : QC G X cX7_letAllGo 2 RX7 0 0 none) {Q : State → Prop} : ∀ (n : Nat) (S : St) (v1 : Int32) (zS : St), m_St_letAllGo_L2 12 0 n S v1 = some zS → QW G X 2 Q 21 [] [] zS → QW G X 2 Q 2 [(0, .ref (gad G 12)), (1, .int v1)] [] S := by
  intro n
  induction n with
  | zero =>
    intro S v1 zS hm kk
    rw [m_St_letAllGo_L2] at hm
    cases hm
  | succ n ih =>
    intro S v1 zS hm kk
    rw [m_St_letAllGo_L2] at hm
    refine q_iload_n (pc := 2) C dX7_letAllGo_2 rfl 1 rfl ?_
    refine q_bipush (pc := 3) (v := (80 : Int32)) C dX7_letAllGo_3 (by decide) ?_
    refine q_icmp_ge (pc := 5) (tgt := 21) C dX7_letAllGo_5 (by decide) (fun c1 => ?_) (fun c1 => ?_)
    · replace hm := hm_t c1 hm
      cases hm
      refine q_lv (lv' := []) [] rfl ?_
      exact kk
    · replace hm := hm_f c1 hm
      refine q_aload_n (pc := 8) C dX7_letAllGo_8 rfl 0 rfl ?_
      refine q_get (pc := 9) (T := TX0) (v := .ref (gad G 13)) C (by decide) (ce_12 _ _ _) (ci := 0) rfl inlX0 (j := 7) (by decide) rfl tw_65 (Or.inl rfl) dX7_letAllGo_9 ?_
      refine q_iload_n (pc := 12) C dX7_letAllGo_12 rfl 1 rfl ?_
      refine q_iconst (pc := 13) (v := (0 : Int32)) C dX7_letAllGo_13 (by decide) ?_
      obtain ⟨b1, hm⟩ := oi_some hm
      refine q_zast0 (pc := 14) C (by decide) (fun _ => ce_13 _ _ _) (ty_13 _) b1 dX7_letAllGo_14 ?_
      refine q_iinc (pc := 15) (k := 1) (v := (v1 + (1 : Int32))) (lv' := [(1, .int (v1 + (1 : Int32))), (0, .ref (gad G 12))]) C dX7_letAllGo_15 rfl rfl (by decide) rfl ?_
      refine q_goto (pc := 18) (tgt := 2) C dX7_letAllGo_18 (by decide) ?_
      refine q_lv (lv' := [(0, .ref (gad G 12)), (1, .int (v1 + (1 : Int32)))]) [1, 0] rfl ?_
      exact ih _ _ _ hm kk
set_option maxRecDepth 100000 in
theorem c_St_letAllGo_12 {G : Gx} (hi : qinj (gad G)) {S : St}  {zS : St} (hm : m_St_letAllGo 12 0 S  = some zS) : QMet G yX7_letAllGo cX7_letAllGo 2 none 0 0 [.ref (gad G 12)] S none zS := by
  refine q_entry (by decide +kernel) rfl hi (Nat.le_of_ble_eq_true rfl) ?_
  intro X C
  refine q_lv (lv' := [(0, .ref (gad G 12))]) [0] rfl ?_
  unfold m_St_letAllGo at hm
  refine q_iconst (pc := 0) (v := (0 : Int32)) C dX7_letAllGo_0 (by decide) ?_
  refine q_istore_n (pc := 1) (lv' := [(1, .int (0 : Int32)), (0, .ref (gad G 12))]) C dX7_letAllGo_1 rfl (by decide) rfl ?_
  refine q_lv (lv' := [(0, .ref (gad G 12)), (1, .int (0 : Int32))]) [1, 0] rfl ?_
  obtain ⟨S1, h1, hm⟩ := o1_some hm
  refine w_St_letAllGo_12_L2 hi C 200 _ _ _ h1 ?_
  cases hm
  exact q_vret (pc := 21) C dX7_letAllGo_21
set_option maxRecDepth 100000 in
theorem c_Cop_forgetThings {G : Gx} (hi : qinj (gad G)) {S : St}  {zS : St} (hm : m_Cop_forgetThings S  = some zS) : QMet G yX0_forgetThings cX0_forgetThings 1 none 0 0 [.ref (gad G 12)] S none zS := by
  refine q_entry (by decide +kernel) rfl hi (Nat.le_of_ble_eq_true rfl) ?_
  intro X C
  refine q_lv (lv' := [(0, .ref (gad G 12))]) [0] rfl ?_
  unfold m_Cop_forgetThings at hm
  refine q_aload_n (pc := 0) C dX0_forgetThings_0 rfl 0 rfl ?_
  refine q_iconst (pc := 1) (v := (0 : Int32)) C dX0_forgetThings_1 (by decide) ?_
  refine q_put (pc := 2) (T := TX0) (ty := .boolean) C tyX0 tyX0_ok nmX0 (by decide) (ce_12 _ _ _) (pe_12_10 _ _ _ _) (ci := 0) rfl inlX0 (j := 10) (by decide) (Nat.le_of_ble_eq_true rfl) tw_151 (Or.inl rfl) rfl (by decide +kernel) (by decide) (by decide) dX0_forgetThings_2 ?_
  refine q_aload_n (pc := 5) C dX0_forgetThings_5 rfl 0 rfl ?_
  refine q_iconst (pc := 6) (v := (0 : Int32)) C dX0_forgetThings_6 (by decide) ?_
  refine q_put (pc := 7) (T := TX0) (ty := .int) C tyX0 tyX0_ok nmX0 (by decide) (ce_12 _ _ _) (pe_12_11 _ _ _ _) (ci := 0) rfl inlX0 (j := 11) (by decide) (Nat.le_of_ble_eq_true rfl) tw_152 (Or.inl rfl) rfl (by decide +kernel) rfl rfl dX0_forgetThings_7 ?_
  cases hm
  exact q_vret (pc := 10) C dX0_forgetThings_10
set_option maxRecDepth 100000 in
theorem c_St_resetCounters_Cop_12 {G : Gx} (hi : qinj (gad G)) {S : St}  {zu : Unit} (hm : m_St_resetCounters_Cop S  = some zu) : QMet G yX7_resetCounters cX7_resetCounters 1 none 0 0 [.ref (gad G 12)] S none S := by
  refine q_entry (by decide +kernel) rfl hi (Nat.le_of_ble_eq_true rfl) ?_
  intro X C
  refine q_lv (lv' := [(0, .ref (gad G 12))]) [0] rfl ?_
  unfold m_St_resetCounters_Cop at hm
  cases hm
  exact q_vret (pc := 0) C dX7_resetCounters_0
set_option maxRecDepth 100000 in
theorem c_St_startAnew_Cop_12 {G : Gx} (hi : qinj (gad G)) {S : St} {a1 : Int32} {zS : St} (hm : m_St_startAnew_Cop S a1 = some zS) : QMet G yX7_startAnew cX7_startAnew 2 none 1 21 [.ref (gad G 12), .int a1] S none zS := by
  refine q_entry (by decide +kernel) rfl hi (Nat.le_of_ble_eq_true rfl) ?_
  intro X C
  refine q_lv (lv' := [(0, .ref (gad G 12)), (1, .int a1)]) [0, 1] rfl ?_
  unfold m_St_startAnew_Cop at hm
  refine q_aload_n (pc := 0) C dX7_startAnew_0 rfl 0 rfl ?_
  refine q_iload_n (pc := 1) C dX7_startAnew_1 rfl 1 rfl ?_
  refine q_put (pc := 2) (T := TX0) (ty := .int) C tyX0 tyX0_ok nmX0 (by decide) (ce_12 _ _ _) (pe_12_1 _ _ _ _) (ci := 0) rfl inlX0 (j := 1) (by decide) (Nat.le_of_ble_eq_true rfl) tw_68 (Or.inl rfl) rfl (by decide +kernel) rfl rfl dX7_startAnew_2 ?_
  refine q_aload_n (pc := 5) C dX7_startAnew_5 rfl 0 rfl ?_
  refine q_iconst (pc := 6) (v := (0 : Int32)) C dX7_startAnew_6 (by decide) ?_
  refine q_put (pc := 7) (T := TX0) (ty := .int) C tyX0 tyX0_ok nmX0 (by decide) (ce_12 _ _ _) (pe_12_2 _ _ _ _) (ci := 0) rfl inlX0 (j := 2) (by decide) (Nat.le_of_ble_eq_true rfl) tw_133 (Or.inl rfl) rfl (by decide +kernel) rfl rfl dX7_startAnew_7 ?_
  refine q_aload_n (pc := 10) C dX7_startAnew_10 rfl 0 rfl ?_
  refine q_iconst (pc := 11) (v := (0 : Int32)) C dX7_startAnew_11 (by decide) ?_
  refine q_put (pc := 12) (T := TX0) (ty := .int) C tyX0 tyX0_ok nmX0 (by decide) (ce_12 _ _ _) (pe_12_3 _ _ _ _) (ci := 0) rfl inlX0 (j := 3) (by decide) (Nat.le_of_ble_eq_true rfl) tw_134 (Or.inl rfl) rfl (by decide +kernel) rfl rfl dX7_startAnew_12 ?_
  refine q_aload_n (pc := 15) C dX7_startAnew_15 rfl 0 rfl ?_
  refine q_iconst (pc := 16) (v := (0 : Int32)) C dX7_startAnew_16 (by decide) ?_
  refine q_put (pc := 17) (T := TX0) (ty := .int) C tyX0 tyX0_ok nmX0 (by decide) (ce_12 _ _ _) (pe_12_4 _ _ _ _) (ci := 0) rfl inlX0 (j := 4) (by decide) (Nat.le_of_ble_eq_true rfl) tw_135 (Or.inl rfl) rfl (by decide +kernel) rfl rfl dX7_startAnew_17 ?_
  refine q_aload_n (pc := 20) C dX7_startAnew_20 rfl 0 rfl ?_
  refine q_iconst (pc := 21) (v := (0 : Int32)) C dX7_startAnew_21 (by decide) ?_
  refine q_put (pc := 22) (T := TX0) (ty := .boolean) C tyX0 tyX0_ok nmX0 (by decide) (ce_12 _ _ _) (pe_12_5 _ _ _ _) (ci := 0) rfl inlX0 (j := 5) (by decide) (Nat.le_of_ble_eq_true rfl) tw_136 (Or.inl rfl) rfl (by decide +kernel) (by decide) (by decide) dX7_startAnew_22 ?_
  refine q_aload_n (pc := 25) C dX7_startAnew_25 rfl 0 rfl ?_
  refine q_iconst (pc := 26) (v := (0 : Int32)) C dX7_startAnew_26 (by decide) ?_
  refine q_put (pc := 27) (T := TX0) (ty := .int) C tyX0 tyX0_ok nmX0 (by decide) (ce_12 _ _ _) (pe_12_6 _ _ _ _) (ci := 0) rfl inlX0 (j := 6) (by decide) (Nat.le_of_ble_eq_true rfl) tw_137 (Or.inl rfl) rfl (by decide +kernel) rfl rfl dX7_startAnew_27 ?_
  refine q_aload_n (pc := 30) C dX7_startAnew_30 rfl 0 rfl ?_
  obtain ⟨S1, h1, hm⟩ := o1_some hm
  refine q_callU (pc := 31) (k := 12) (As := []) (rest := []) (T := TX0) (owner := "Tessera$Store") (x := ⟨"Tessera$Store", "letAllGo", "()V"⟩) C (c_St_letAllGo_12 hi h1) (by decide) (ce_12 _ _ _) (ci := 0) rfl (Or.inl rfl) tw_138 tw_139 tw_141 tw_140 tw_62 tw_142 (nA := 0) (by decide +kernel) rfl (by decide) (Nat.le_of_ble_eq_true rfl) rfl dX7_startAnew_31 ?_
  refine q_aload_n (pc := 34) C dX7_startAnew_34 rfl 0 rfl ?_
  obtain ⟨S2, h2, hm⟩ := o1_some hm
  refine q_callU (pc := 35) (k := 12) (As := []) (rest := []) (T := TX0) (owner := "Tessera$Store") (x := ⟨"Tessera$Store", "forgetThings", "()V"⟩) C (c_Cop_forgetThings hi h2) (by decide) (ce_12 _ _ _) (ci := 0) rfl (Or.inr (Or.inl (by decide))) tw_146 tw_147 tw_149 tw_148 tw_26 tw_150 (nA := 0) (by decide +kernel) rfl (by decide) (Nat.le_of_ble_eq_true rfl) rfl dX7_startAnew_35 ?_
  refine q_aload_n (pc := 38) C dX7_startAnew_38 rfl 0 rfl ?_
  obtain ⟨u1, h3, hm⟩ := o1_some hm
  refine q_callU (pc := 39) (k := 12) (As := []) (rest := []) (T := TX0) (owner := "Tessera$Store") (x := ⟨"Tessera$Store", "resetCounters", "()V"⟩) C (c_St_resetCounters_Cop_12 hi h3) (by decide) (ce_12 _ _ _) (ci := 0) rfl (Or.inl rfl) tw_169 tw_170 tw_172 tw_171 tw_62 tw_173 (nA := 0) (by decide +kernel) rfl (by decide) (Nat.le_of_ble_eq_true rfl) rfl dX7_startAnew_39 ?_
  cases hm
  exact q_vret (pc := 42) C dX7_startAnew_42
set_option maxRecDepth 100000 in
theorem w_St_letAllGo_18_L2 {G : Gx} (hi : qinj (gad G)) {X : Cx} (C : QC G X cX7_letAllGo 2 RX7 0 0 none) {Q : State → Prop} : ∀ (n : Nat) (S : St) (v1 : Int32) (zS : St), m_St_letAllGo_L2 18 0 n S v1 = some zS → QW G X 2 Q 21 [] [] zS → QW G X 2 Q 2 [(0, .ref (gad G 18)), (1, .int v1)] [] S := by
  intro n
  induction n with
  | zero =>
    intro S v1 zS hm kk
    rw [m_St_letAllGo_L2] at hm
    cases hm
  | succ n ih =>
    intro S v1 zS hm kk
    rw [m_St_letAllGo_L2] at hm
    refine q_iload_n (pc := 2) C dX7_letAllGo_2 rfl 1 rfl ?_
    refine q_bipush (pc := 3) (v := (80 : Int32)) C dX7_letAllGo_3 (by decide) ?_
    refine q_icmp_ge (pc := 5) (tgt := 21) C dX7_letAllGo_5 (by decide) (fun c1 => ?_) (fun c1 => ?_)
    · replace hm := hm_t c1 hm
      cases hm
      refine q_lv (lv' := []) [] rfl ?_
      exact kk
    · replace hm := hm_f c1 hm
      refine q_aload_n (pc := 8) C dX7_letAllGo_8 rfl 0 rfl ?_
      refine q_get (pc := 9) (T := TX4) (v := .ref (gad G 19)) C (by decide) (ce_18 _ _ _) (ci := 4) rfl inlX4 (j := 7) (by decide) rfl tw_65 (Or.inl rfl) dX7_letAllGo_9 ?_
      refine q_iload_n (pc := 12) C dX7_letAllGo_12 rfl 1 rfl ?_
      refine q_iconst (pc := 13) (v := (0 : Int32)) C dX7_letAllGo_13 (by decide) ?_
      obtain ⟨b1, hm⟩ := oi_some hm
      refine q_zast0 (pc := 14) C (by decide) (fun _ => ce_19 _ _ _) (ty_19 _) b1 dX7_letAllGo_14 ?_
      refine q_iinc (pc := 15) (k := 1) (v := (v1 + (1 : Int32))) (lv' := [(1, .int (v1 + (1 : Int32))), (0, .ref (gad G 18))]) C dX7_letAllGo_15 rfl rfl (by decide) rfl ?_
      refine q_goto (pc := 18) (tgt := 2) C dX7_letAllGo_18 (by decide) ?_
      refine q_lv (lv' := [(0, .ref (gad G 18)), (1, .int (v1 + (1 : Int32)))]) [1, 0] rfl ?_
      exact ih _ _ _ hm kk
set_option maxRecDepth 100000 in
theorem c_St_letAllGo_18 {G : Gx} (hi : qinj (gad G)) {S : St}  {zS : St} (hm : m_St_letAllGo 18 0 S  = some zS) : QMet G yX7_letAllGo cX7_letAllGo 2 none 0 0 [.ref (gad G 18)] S none zS := by
  refine q_entry (by decide +kernel) rfl hi (Nat.le_of_ble_eq_true rfl) ?_
  intro X C
  refine q_lv (lv' := [(0, .ref (gad G 18))]) [0] rfl ?_
  unfold m_St_letAllGo at hm
  refine q_iconst (pc := 0) (v := (0 : Int32)) C dX7_letAllGo_0 (by decide) ?_
  refine q_istore_n (pc := 1) (lv' := [(1, .int (0 : Int32)), (0, .ref (gad G 18))]) C dX7_letAllGo_1 rfl (by decide) rfl ?_
  refine q_lv (lv' := [(0, .ref (gad G 18)), (1, .int (0 : Int32))]) [1, 0] rfl ?_
  obtain ⟨S1, h1, hm⟩ := o1_some hm
  refine w_St_letAllGo_18_L2 hi C 200 _ _ _ h1 ?_
  cases hm
  exact q_vret (pc := 21) C dX7_letAllGo_21
set_option maxRecDepth 100000 in
theorem w_Row_empty_21_L2 {G : Gx} (hi : qinj (gad G)) {X : Cx} (C : QC G X cX5_empty 2 RX5 0 0 none) {Q : State → Prop} : ∀ (n : Nat) (S : St) (v1 : Int32) (zS : St), m_Row_empty_L2 21 n S v1 = some zS → QW G X 2 Q 21 [(0, .ref (gad G 21))] [] zS → QW G X 2 Q 2 [(0, .ref (gad G 21)), (1, .int v1)] [] S := by
  intro n
  induction n with
  | zero =>
    intro S v1 zS hm kk
    rw [m_Row_empty_L2] at hm
    cases hm
  | succ n ih =>
    intro S v1 zS hm kk
    rw [m_Row_empty_L2] at hm
    refine q_iload_n (pc := 2) C dX5_empty_2 rfl 1 rfl ?_
    refine q_bipush (pc := 3) (v := (80 : Int32)) C dX5_empty_3 (by decide) ?_
    refine q_icmp_ge (pc := 5) (tgt := 21) C dX5_empty_5 (by decide) (fun c1 => ?_) (fun c1 => ?_)
    · replace hm := hm_t c1 hm
      cases hm
      refine q_lv (lv' := [(0, .ref (gad G 21))]) [0] rfl ?_
      exact kk
    · replace hm := hm_f c1 hm
      refine q_aload_n (pc := 8) C dX5_empty_8 rfl 0 rfl ?_
      refine q_get (pc := 9) (T := TX5) (v := .ref (gad G 23)) C (by decide) (ce_21 _ _ _) (ci := 5) rfl inlX5 (j := 1) (by decide) rfl tw_50 (Or.inl rfl) dX5_empty_9 ?_
      refine q_iload_n (pc := 12) C dX5_empty_12 rfl 1 rfl ?_
      refine q_iconst (pc := 13) (v := (0 : Int32)) C dX5_empty_13 (by decide) ?_
      obtain ⟨b1, hm⟩ := oi_some hm
      refine q_zast0 (pc := 14) C (by decide) (fun _ => ce_23 _ _ _) (ty_23 _) b1 dX5_empty_14 ?_
      refine q_iinc (pc := 15) (k := 1) (v := (v1 + (1 : Int32))) (lv' := [(1, .int (v1 + (1 : Int32))), (0, .ref (gad G 21))]) C dX5_empty_15 rfl rfl (by decide) rfl ?_
      refine q_goto (pc := 18) (tgt := 2) C dX5_empty_18 (by decide) ?_
      refine q_lv (lv' := [(0, .ref (gad G 21)), (1, .int (v1 + (1 : Int32)))]) [1, 0] rfl ?_
      exact ih _ _ _ hm kk
set_option maxRecDepth 100000 in
theorem c_Row_empty_21 {G : Gx} (hi : qinj (gad G)) {S : St}  {zS : St} (hm : m_Row_empty 21 S  = some zS) : QMet G yX5_empty cX5_empty 2 none 0 0 [.ref (gad G 21)] S none zS := by
  refine q_entry (by decide +kernel) rfl hi (Nat.le_of_ble_eq_true rfl) ?_
  intro X C
  refine q_lv (lv' := [(0, .ref (gad G 21))]) [0] rfl ?_
  unfold m_Row_empty at hm
  refine q_iconst (pc := 0) (v := (0 : Int32)) C dX5_empty_0 (by decide) ?_
  refine q_istore_n (pc := 1) (lv' := [(1, .int (0 : Int32)), (0, .ref (gad G 21))]) C dX5_empty_1 rfl (by decide) rfl ?_
  refine q_lv (lv' := [(0, .ref (gad G 21)), (1, .int (0 : Int32))]) [1, 0] rfl ?_
  obtain ⟨S1, h1, hm⟩ := o1_some hm
  refine w_Row_empty_21_L2 hi C 200 _ _ _ h1 ?_
  refine q_aload_n (pc := 21) C dX5_empty_21 rfl 0 rfl ?_
  refine q_iconst (pc := 22) (v := (0 : Int32)) C dX5_empty_22 (by decide) ?_
  refine q_put (pc := 23) (T := TX5) (ty := .int) C tyX5 tyX5_ok nmX5 (by decide) (ce_21 _ _ _) (pe_21_2 _ _ _ _) (ci := 5) rfl inlX5 (j := 2) (by decide) (Nat.le_of_ble_eq_true rfl) tw_127 (Or.inl rfl) rfl (by decide +kernel) rfl rfl dX5_empty_23 ?_
  cases hm
  exact q_vret (pc := 26) C dX5_empty_26
set_option maxRecDepth 100000 in
theorem w_Row_empty_24_L2 {G : Gx} (hi : qinj (gad G)) {X : Cx} (C : QC G X cX5_empty 2 RX5 0 0 none) {Q : State → Prop} : ∀ (n : Nat) (S : St) (v1 : Int32) (zS : St), m_Row_empty_L2 24 n S v1 = some zS → QW G X 2 Q 21 [(0, .ref (gad G 24))] [] zS → QW G X 2 Q 2 [(0, .ref (gad G 24)), (1, .int v1)] [] S := by
  intro n
  induction n with
  | zero =>
    intro S v1 zS hm kk
    rw [m_Row_empty_L2] at hm
    cases hm
  | succ n ih =>
    intro S v1 zS hm kk
    rw [m_Row_empty_L2] at hm
    refine q_iload_n (pc := 2) C dX5_empty_2 rfl 1 rfl ?_
    refine q_bipush (pc := 3) (v := (80 : Int32)) C dX5_empty_3 (by decide) ?_
    refine q_icmp_ge (pc := 5) (tgt := 21) C dX5_empty_5 (by decide) (fun c1 => ?_) (fun c1 => ?_)
    · replace hm := hm_t c1 hm
      cases hm
      refine q_lv (lv' := [(0, .ref (gad G 24))]) [0] rfl ?_
      exact kk
    · replace hm := hm_f c1 hm
      refine q_aload_n (pc := 8) C dX5_empty_8 rfl 0 rfl ?_
      refine q_get (pc := 9) (T := TX5) (v := .ref (gad G 26)) C (by decide) (ce_24 _ _ _) (ci := 5) rfl inlX5 (j := 1) (by decide) rfl tw_50 (Or.inl rfl) dX5_empty_9 ?_
      refine q_iload_n (pc := 12) C dX5_empty_12 rfl 1 rfl ?_
      refine q_iconst (pc := 13) (v := (0 : Int32)) C dX5_empty_13 (by decide) ?_
      obtain ⟨b1, hm⟩ := oi_some hm
      refine q_zast0 (pc := 14) C (by decide) (fun _ => ce_26 _ _ _) (ty_26 _) b1 dX5_empty_14 ?_
      refine q_iinc (pc := 15) (k := 1) (v := (v1 + (1 : Int32))) (lv' := [(1, .int (v1 + (1 : Int32))), (0, .ref (gad G 24))]) C dX5_empty_15 rfl rfl (by decide) rfl ?_
      refine q_goto (pc := 18) (tgt := 2) C dX5_empty_18 (by decide) ?_
      refine q_lv (lv' := [(0, .ref (gad G 24)), (1, .int (v1 + (1 : Int32)))]) [1, 0] rfl ?_
      exact ih _ _ _ hm kk
set_option maxRecDepth 100000 in
theorem c_Row_empty_24 {G : Gx} (hi : qinj (gad G)) {S : St}  {zS : St} (hm : m_Row_empty 24 S  = some zS) : QMet G yX5_empty cX5_empty 2 none 0 0 [.ref (gad G 24)] S none zS := by
  refine q_entry (by decide +kernel) rfl hi (Nat.le_of_ble_eq_true rfl) ?_
  intro X C
  refine q_lv (lv' := [(0, .ref (gad G 24))]) [0] rfl ?_
  unfold m_Row_empty at hm
  refine q_iconst (pc := 0) (v := (0 : Int32)) C dX5_empty_0 (by decide) ?_
  refine q_istore_n (pc := 1) (lv' := [(1, .int (0 : Int32)), (0, .ref (gad G 24))]) C dX5_empty_1 rfl (by decide) rfl ?_
  refine q_lv (lv' := [(0, .ref (gad G 24)), (1, .int (0 : Int32))]) [1, 0] rfl ?_
  obtain ⟨S1, h1, hm⟩ := o1_some hm
  refine w_Row_empty_24_L2 hi C 200 _ _ _ h1 ?_
  refine q_aload_n (pc := 21) C dX5_empty_21 rfl 0 rfl ?_
  refine q_iconst (pc := 22) (v := (0 : Int32)) C dX5_empty_22 (by decide) ?_
  refine q_put (pc := 23) (T := TX5) (ty := .int) C tyX5 tyX5_ok nmX5 (by decide) (ce_24 _ _ _) (pe_24_2 _ _ _ _) (ci := 5) rfl inlX5 (j := 2) (by decide) (Nat.le_of_ble_eq_true rfl) tw_127 (Or.inl rfl) rfl (by decide +kernel) rfl rfl dX5_empty_23 ?_
  cases hm
  exact q_vret (pc := 26) C dX5_empty_26
set_option maxRecDepth 100000 in
theorem c_Nur_forgetThings {G : Gx} (hi : qinj (gad G)) {S : St}  {zS : St} (hm : m_Nur_forgetThings S  = some zS) : QMet G yX4_forgetThings cX4_forgetThings 1 none 1 21 [.ref (gad G 18)] S none zS := by
  refine q_entry (by decide +kernel) rfl hi (Nat.le_of_ble_eq_true rfl) ?_
  intro X C
  refine q_lv (lv' := [(0, .ref (gad G 18))]) [0] rfl ?_
  unfold m_Nur_forgetThings at hm
  refine q_aload_n (pc := 0) C dX4_forgetThings_0 rfl 0 rfl ?_
  refine q_get (pc := 1) (T := TX4) (v := .ref (gad G 21)) C (by decide) (ce_18 _ _ _) (ci := 4) rfl inlX4 (j := 11) (by decide) rfl tw_55 (Or.inl rfl) dX4_forgetThings_1 ?_
  obtain ⟨S1, h1, hm⟩ := o1_some hm
  refine q_callV (pc := 4) (k := 21) (As := []) (rest := []) (T := TX5) C (c_Row_empty_21 hi h1) (by decide) (ce_21 _ _ _) (ci := 5) rfl tw_168 tw_124 tw_125 tw_43 tw_126 (nA := 0) (by decide +kernel) rfl (by decide) (Nat.le_of_ble_eq_true rfl) rfl dX4_forgetThings_4 ?_
  refine q_aload_n (pc := 7) C dX4_forgetThings_7 rfl 0 rfl ?_
  refine q_get (pc := 8) (T := TX4) (v := .ref (gad G 24)) C (by decide) (ce_18 _ _ _) (ci := 4) rfl inlX4 (j := 12) (by decide) rfl tw_56 (Or.inl rfl) dX4_forgetThings_8 ?_
  obtain ⟨S2, h2, hm⟩ := o1_some hm
  refine q_callV (pc := 11) (k := 24) (As := []) (rest := []) (T := TX5) C (c_Row_empty_24 hi h2) (by decide) (ce_24 _ _ _) (ci := 5) rfl tw_168 tw_124 tw_125 tw_43 tw_126 (nA := 0) (by decide +kernel) rfl (by decide) (Nat.le_of_ble_eq_true rfl) rfl dX4_forgetThings_11 ?_
  refine q_aload_n (pc := 14) C dX4_forgetThings_14 rfl 0 rfl ?_
  refine q_iconst (pc := 15) (v := (0 : Int32)) C dX4_forgetThings_15 (by decide) ?_
  refine q_put (pc := 16) (T := TX4) (ty := .int) C tyX4 tyX4_ok nmX4 (by decide) (ce_18 _ _ _) (pe_18_15 _ _ _ _) (ci := 4) rfl inlX4 (j := 15) (by decide) (Nat.le_of_ble_eq_true rfl) tw_165 (Or.inl rfl) rfl (by decide +kernel) rfl rfl dX4_forgetThings_16 ?_
  refine q_aload_n (pc := 19) C dX4_forgetThings_19 rfl 0 rfl ?_
  refine q_aload_n (pc := 20) C dX4_forgetThings_20 rfl 0 rfl ?_
  refine q_get (pc := 21) (T := TX4) (v := .int (S2 18 1)) C (by decide) (ce_18 _ _ _) (ci := 4) rfl inlX4 (j := 1) (by decide) rfl tw_166 (Or.inr tw_167) dX4_forgetThings_21 ?_
  refine q_iconst (pc := 24) (v := (4 : Int32)) C dX4_forgetThings_24 (by decide) ?_
  refine q_idiv (pc := 25) C dX4_forgetThings_25 (by decide) ?_
  refine q_put (pc := 26) (T := TX4) (ty := .int) C tyX4 tyX4_ok nmX4 (by decide) (ce_18 _ _ _) (pe_18_16 _ _ _ _) (ci := 4) rfl inlX4 (j := 16) (by decide) (Nat.le_of_ble_eq_true rfl) tw_59 (Or.inl rfl) rfl (by decide +kernel) rfl rfl dX4_forgetThings_26 ?_
  cases hm
  exact q_vret (pc := 29) C dX4_forgetThings_29
set_option maxRecDepth 100000 in
theorem c_Nur_resetCounters {G : Gx} (hi : qinj (gad G)) {S : St}  {zS : St} (hm : m_Nur_resetCounters S  = some zS) : QMet G yX4_resetCounters cX4_resetCounters 1 none 0 0 [.ref (gad G 18)] S none zS := by
  refine q_entry (by decide +kernel) rfl hi (Nat.le_of_ble_eq_true rfl) ?_
  intro X C
  refine q_lv (lv' := [(0, .ref (gad G 18))]) [0] rfl ?_
  unfold m_Nur_resetCounters at hm
  refine q_aload_n (pc := 0) C dX4_resetCounters_0 rfl 0 rfl ?_
  refine q_iconst (pc := 1) (v := (0 : Int32)) C dX4_resetCounters_1 (by decide) ?_
  refine q_put (pc := 2) (T := TX4) (ty := .int) C tyX4 tyX4_ok nmX4 (by decide) (ce_18 _ _ _) (pe_18_9 _ _ _ _) (ci := 4) rfl inlX4 (j := 9) (by decide) (Nat.le_of_ble_eq_true rfl) tw_183 (Or.inl rfl) rfl (by decide +kernel) rfl rfl dX4_resetCounters_2 ?_
  refine q_aload_n (pc := 5) C dX4_resetCounters_5 rfl 0 rfl ?_
  refine q_iconst (pc := 6) (v := (0 : Int32)) C dX4_resetCounters_6 (by decide) ?_
  refine q_put (pc := 7) (T := TX4) (ty := .int) C tyX4 tyX4_ok nmX4 (by decide) (ce_18 _ _ _) (pe_18_10 _ _ _ _) (ci := 4) rfl inlX4 (j := 10) (by decide) (Nat.le_of_ble_eq_true rfl) tw_184 (Or.inl rfl) rfl (by decide +kernel) rfl rfl dX4_resetCounters_7 ?_
  cases hm
  exact q_vret (pc := 10) C dX4_resetCounters_10
set_option maxRecDepth 100000 in
theorem c_St_startAnew_Nur_18 {G : Gx} (hi : qinj (gad G)) {S : St} {a1 : Int32} {zS : St} (hm : m_St_startAnew_Nur S a1 = some zS) : QMet G yX7_startAnew cX7_startAnew 2 none 2 41 [.ref (gad G 18), .int a1] S none zS := by
  refine q_entry (by decide +kernel) rfl hi (Nat.le_of_ble_eq_true rfl) ?_
  intro X C
  refine q_lv (lv' := [(0, .ref (gad G 18)), (1, .int a1)]) [0, 1] rfl ?_
  unfold m_St_startAnew_Nur at hm
  refine q_aload_n (pc := 0) C dX7_startAnew_0 rfl 0 rfl ?_
  refine q_iload_n (pc := 1) C dX7_startAnew_1 rfl 1 rfl ?_
  refine q_put (pc := 2) (T := TX4) (ty := .int) C tyX4 tyX4_ok nmX4 (by decide) (ce_18 _ _ _) (pe_18_1 _ _ _ _) (ci := 4) rfl inlX4 (j := 1) (by decide) (Nat.le_of_ble_eq_true rfl) tw_68 (Or.inl rfl) rfl (by decide +kernel) rfl rfl dX7_startAnew_2 ?_
  refine q_aload_n (pc := 5) C dX7_startAnew_5 rfl 0 rfl ?_
  refine q_iconst (pc := 6) (v := (0 : Int32)) C dX7_startAnew_6 (by decide) ?_
  refine q_put (pc := 7) (T := TX4) (ty := .int) C tyX4 tyX4_ok nmX4 (by decide) (ce_18 _ _ _) (pe_18_2 _ _ _ _) (ci := 4) rfl inlX4 (j := 2) (by decide) (Nat.le_of_ble_eq_true rfl) tw_133 (Or.inl rfl) rfl (by decide +kernel) rfl rfl dX7_startAnew_7 ?_
  refine q_aload_n (pc := 10) C dX7_startAnew_10 rfl 0 rfl ?_
  refine q_iconst (pc := 11) (v := (0 : Int32)) C dX7_startAnew_11 (by decide) ?_
  refine q_put (pc := 12) (T := TX4) (ty := .int) C tyX4 tyX4_ok nmX4 (by decide) (ce_18 _ _ _) (pe_18_3 _ _ _ _) (ci := 4) rfl inlX4 (j := 3) (by decide) (Nat.le_of_ble_eq_true rfl) tw_134 (Or.inl rfl) rfl (by decide +kernel) rfl rfl dX7_startAnew_12 ?_
  refine q_aload_n (pc := 15) C dX7_startAnew_15 rfl 0 rfl ?_
  refine q_iconst (pc := 16) (v := (0 : Int32)) C dX7_startAnew_16 (by decide) ?_
  refine q_put (pc := 17) (T := TX4) (ty := .int) C tyX4 tyX4_ok nmX4 (by decide) (ce_18 _ _ _) (pe_18_4 _ _ _ _) (ci := 4) rfl inlX4 (j := 4) (by decide) (Nat.le_of_ble_eq_true rfl) tw_135 (Or.inl rfl) rfl (by decide +kernel) rfl rfl dX7_startAnew_17 ?_
  refine q_aload_n (pc := 20) C dX7_startAnew_20 rfl 0 rfl ?_
  refine q_iconst (pc := 21) (v := (0 : Int32)) C dX7_startAnew_21 (by decide) ?_
  refine q_put (pc := 22) (T := TX4) (ty := .boolean) C tyX4 tyX4_ok nmX4 (by decide) (ce_18 _ _ _) (pe_18_5 _ _ _ _) (ci := 4) rfl inlX4 (j := 5) (by decide) (Nat.le_of_ble_eq_true rfl) tw_136 (Or.inl rfl) rfl (by decide +kernel) (by decide) (by decide) dX7_startAnew_22 ?_
  refine q_aload_n (pc := 25) C dX7_startAnew_25 rfl 0 rfl ?_
  refine q_iconst (pc := 26) (v := (0 : Int32)) C dX7_startAnew_26 (by decide) ?_
  refine q_put (pc := 27) (T := TX4) (ty := .int) C tyX4 tyX4_ok nmX4 (by decide) (ce_18 _ _ _) (pe_18_6 _ _ _ _) (ci := 4) rfl inlX4 (j := 6) (by decide) (Nat.le_of_ble_eq_true rfl) tw_137 (Or.inl rfl) rfl (by decide +kernel) rfl rfl dX7_startAnew_27 ?_
  refine q_aload_n (pc := 30) C dX7_startAnew_30 rfl 0 rfl ?_
  obtain ⟨S1, h1, hm⟩ := o1_some hm
  refine q_callU (pc := 31) (k := 18) (As := []) (rest := []) (T := TX4) (owner := "Tessera$Store") (x := ⟨"Tessera$Store", "letAllGo", "()V"⟩) C (c_St_letAllGo_18 hi h1) (by decide) (ce_18 _ _ _) (ci := 4) rfl (Or.inl rfl) tw_138 tw_139 tw_141 tw_145 tw_62 tw_142 (nA := 0) (by decide +kernel) rfl (by decide) (Nat.le_of_ble_eq_true rfl) rfl dX7_startAnew_31 ?_
  refine q_aload_n (pc := 34) C dX7_startAnew_34 rfl 0 rfl ?_
  obtain ⟨S2, h2, hm⟩ := o1_some hm
  refine q_callU (pc := 35) (k := 18) (As := []) (rest := []) (T := TX4) (owner := "Tessera$Store") (x := ⟨"Tessera$Store", "forgetThings", "()V"⟩) C (c_Nur_forgetThings hi h2) (by decide) (ce_18 _ _ _) (ci := 4) rfl (Or.inr (Or.inl (by decide))) tw_146 tw_147 tw_163 tw_162 tw_16 tw_164 (nA := 0) (by decide +kernel) rfl (by decide) (Nat.le_of_ble_eq_true rfl) rfl dX7_startAnew_35 ?_
  refine q_aload_n (pc := 38) C dX7_startAnew_38 rfl 0 rfl ?_
  obtain ⟨S3, h3, hm⟩ := o1_some hm
  refine q_callU (pc := 39) (k := 18) (As := []) (rest := []) (T := TX4) (owner := "Tessera$Store") (x := ⟨"Tessera$Store", "resetCounters", "()V"⟩) C (c_Nur_resetCounters hi h3) (by decide) (ce_18 _ _ _) (ci := 4) rfl (Or.inr (Or.inr ⟨_, _, _, tw_174, tw_173⟩)) tw_169 tw_170 tw_181 tw_180 tw_16 tw_182 (nA := 0) (by decide +kernel) rfl (by decide) (Nat.le_of_ble_eq_true rfl) rfl dX7_startAnew_39 ?_
  cases hm
  exact q_vret (pc := 42) C dX7_startAnew_42
set_option maxRecDepth 100000 in
theorem w_St_letAllGo_31_L2 {G : Gx} (hi : qinj (gad G)) {X : Cx} (C : QC G X cX7_letAllGo 2 RX7 0 0 none) {Q : State → Prop} : ∀ (n : Nat) (S : St) (v1 : Int32) (zS : St), m_St_letAllGo_L2 31 1 n S v1 = some zS → QW G X 2 Q 21 [] [] zS → QW G X 2 Q 2 [(0, .ref (gad G 31)), (1, .int v1)] [] S := by
  intro n
  induction n with
  | zero =>
    intro S v1 zS hm kk
    rw [m_St_letAllGo_L2] at hm
    cases hm
  | succ n ih =>
    intro S v1 zS hm kk
    rw [m_St_letAllGo_L2] at hm
    refine q_iload_n (pc := 2) C dX7_letAllGo_2 rfl 1 rfl ?_
    refine q_bipush (pc := 3) (v := (80 : Int32)) C dX7_letAllGo_3 (by decide) ?_
    refine q_icmp_ge (pc := 5) (tgt := 21) C dX7_letAllGo_5 (by decide) (fun c1 => ?_) (fun c1 => ?_)
    · replace hm := hm_t c1 hm
      cases hm
      refine q_lv (lv' := []) [] rfl ?_
      exact kk
    · replace hm := hm_f c1 hm
      refine q_aload_n (pc := 8) C dX7_letAllGo_8 rfl 0 rfl ?_
      refine q_get (pc := 9) (T := TX3) (v := .ref (gad G 32)) C (by decide) (ce_31 _ _ _) (ci := 3) rfl inlX3 (j := 8) (by decide) rfl tw_65 (Or.inl rfl) dX7_letAllGo_9 ?_
      refine q_iload_n (pc := 12) C dX7_letAllGo_12 rfl 1 rfl ?_
      refine q_iconst (pc := 13) (v := (0 : Int32)) C dX7_letAllGo_13 (by decide) ?_
      obtain ⟨b1, hm⟩ := oi_some hm
      refine q_zast0 (pc := 14) C (by decide) (fun _ => ce_32 _ _ _) (ty_32 _) b1 dX7_letAllGo_14 ?_
      refine q_iinc (pc := 15) (k := 1) (v := (v1 + (1 : Int32))) (lv' := [(1, .int (v1 + (1 : Int32))), (0, .ref (gad G 31))]) C dX7_letAllGo_15 rfl rfl (by decide) rfl ?_
      refine q_goto (pc := 18) (tgt := 2) C dX7_letAllGo_18 (by decide) ?_
      refine q_lv (lv' := [(0, .ref (gad G 31)), (1, .int (v1 + (1 : Int32)))]) [1, 0] rfl ?_
      exact ih _ _ _ hm kk
set_option maxRecDepth 100000 in
theorem c_St_letAllGo_31 {G : Gx} (hi : qinj (gad G)) {S : St}  {zS : St} (hm : m_St_letAllGo 31 1 S  = some zS) : QMet G yX7_letAllGo cX7_letAllGo 2 none 0 0 [.ref (gad G 31)] S none zS := by
  refine q_entry (by decide +kernel) rfl hi (Nat.le_of_ble_eq_true rfl) ?_
  intro X C
  refine q_lv (lv' := [(0, .ref (gad G 31))]) [0] rfl ?_
  unfold m_St_letAllGo at hm
  refine q_iconst (pc := 0) (v := (0 : Int32)) C dX7_letAllGo_0 (by decide) ?_
  refine q_istore_n (pc := 1) (lv' := [(1, .int (0 : Int32)), (0, .ref (gad G 31))]) C dX7_letAllGo_1 rfl (by decide) rfl ?_
  refine q_lv (lv' := [(0, .ref (gad G 31)), (1, .int (0 : Int32))]) [1, 0] rfl ?_
  obtain ⟨S1, h1, hm⟩ := o1_some hm
  refine w_St_letAllGo_31_L2 hi C 200 _ _ _ h1 ?_
  cases hm
  exact q_vret (pc := 21) C dX7_letAllGo_21
set_option maxRecDepth 100000 in
theorem w_Row_empty_36_L2 {G : Gx} (hi : qinj (gad G)) {X : Cx} (C : QC G X cX5_empty 2 RX5 0 0 none) {Q : State → Prop} : ∀ (n : Nat) (S : St) (v1 : Int32) (zS : St), m_Row_empty_L2 36 n S v1 = some zS → QW G X 2 Q 21 [(0, .ref (gad G 36))] [] zS → QW G X 2 Q 2 [(0, .ref (gad G 36)), (1, .int v1)] [] S := by
  intro n
  induction n with
  | zero =>
    intro S v1 zS hm kk
    rw [m_Row_empty_L2] at hm
    cases hm
  | succ n ih =>
    intro S v1 zS hm kk
    rw [m_Row_empty_L2] at hm
    refine q_iload_n (pc := 2) C dX5_empty_2 rfl 1 rfl ?_
    refine q_bipush (pc := 3) (v := (80 : Int32)) C dX5_empty_3 (by decide) ?_
    refine q_icmp_ge (pc := 5) (tgt := 21) C dX5_empty_5 (by decide) (fun c1 => ?_) (fun c1 => ?_)
    · replace hm := hm_t c1 hm
      cases hm
      refine q_lv (lv' := [(0, .ref (gad G 36))]) [0] rfl ?_
      exact kk
    · replace hm := hm_f c1 hm
      refine q_aload_n (pc := 8) C dX5_empty_8 rfl 0 rfl ?_
      refine q_get (pc := 9) (T := TX5) (v := .ref (gad G 38)) C (by decide) (ce_36 _ _ _) (ci := 5) rfl inlX5 (j := 1) (by decide) rfl tw_50 (Or.inl rfl) dX5_empty_9 ?_
      refine q_iload_n (pc := 12) C dX5_empty_12 rfl 1 rfl ?_
      refine q_iconst (pc := 13) (v := (0 : Int32)) C dX5_empty_13 (by decide) ?_
      obtain ⟨b1, hm⟩ := oi_some hm
      refine q_zast0 (pc := 14) C (by decide) (fun _ => ce_38 _ _ _) (ty_38 _) b1 dX5_empty_14 ?_
      refine q_iinc (pc := 15) (k := 1) (v := (v1 + (1 : Int32))) (lv' := [(1, .int (v1 + (1 : Int32))), (0, .ref (gad G 36))]) C dX5_empty_15 rfl rfl (by decide) rfl ?_
      refine q_goto (pc := 18) (tgt := 2) C dX5_empty_18 (by decide) ?_
      refine q_lv (lv' := [(0, .ref (gad G 36)), (1, .int (v1 + (1 : Int32)))]) [1, 0] rfl ?_
      exact ih _ _ _ hm kk
set_option maxRecDepth 100000 in
theorem c_Row_empty_36 {G : Gx} (hi : qinj (gad G)) {S : St}  {zS : St} (hm : m_Row_empty 36 S  = some zS) : QMet G yX5_empty cX5_empty 2 none 0 0 [.ref (gad G 36)] S none zS := by
  refine q_entry (by decide +kernel) rfl hi (Nat.le_of_ble_eq_true rfl) ?_
  intro X C
  refine q_lv (lv' := [(0, .ref (gad G 36))]) [0] rfl ?_
  unfold m_Row_empty at hm
  refine q_iconst (pc := 0) (v := (0 : Int32)) C dX5_empty_0 (by decide) ?_
  refine q_istore_n (pc := 1) (lv' := [(1, .int (0 : Int32)), (0, .ref (gad G 36))]) C dX5_empty_1 rfl (by decide) rfl ?_
  refine q_lv (lv' := [(0, .ref (gad G 36)), (1, .int (0 : Int32))]) [1, 0] rfl ?_
  obtain ⟨S1, h1, hm⟩ := o1_some hm
  refine w_Row_empty_36_L2 hi C 200 _ _ _ h1 ?_
  refine q_aload_n (pc := 21) C dX5_empty_21 rfl 0 rfl ?_
  refine q_iconst (pc := 22) (v := (0 : Int32)) C dX5_empty_22 (by decide) ?_
  refine q_put (pc := 23) (T := TX5) (ty := .int) C tyX5 tyX5_ok nmX5 (by decide) (ce_36 _ _ _) (pe_36_2 _ _ _ _) (ci := 5) rfl inlX5 (j := 2) (by decide) (Nat.le_of_ble_eq_true rfl) tw_127 (Or.inl rfl) rfl (by decide +kernel) rfl rfl dX5_empty_23 ?_
  cases hm
  exact q_vret (pc := 26) C dX5_empty_26
set_option maxRecDepth 100000 in
theorem c_Mar_forgetThings {G : Gx} (hi : qinj (gad G)) {S : St}  {zS : St} (hm : m_Mar_forgetThings S  = some zS) : QMet G yX3_forgetThings cX3_forgetThings 1 none 1 21 [.ref (gad G 31)] S none zS := by
  refine q_entry (by decide +kernel) rfl hi (Nat.le_of_ble_eq_true rfl) ?_
  intro X C
  refine q_lv (lv' := [(0, .ref (gad G 31))]) [0] rfl ?_
  unfold m_Mar_forgetThings at hm
  refine q_aload_n (pc := 0) C dX3_forgetThings_0 rfl 0 rfl ?_
  refine q_iconst (pc := 1) (v := (0 : Int32)) C dX3_forgetThings_1 (by decide) ?_
  refine q_put (pc := 2) (T := TX3) (ty := .boolean) C tyX3 tyX3_ok nmX3 (by decide) (ce_31 _ _ _) (pe_31_10 _ _ _ _) (ci := 3) rfl inlX3 (j := 10) (by decide) (Nat.le_of_ble_eq_true rfl) tw_159 (Or.inl rfl) rfl (by decide +kernel) (by decide) (by decide) dX3_forgetThings_2 ?_
  refine q_aload_n (pc := 5) C dX3_forgetThings_5 rfl 0 rfl ?_
  refine q_get (pc := 6) (T := TX3) (v := .ref (gad G 36)) C (by decide) (ce_31 _ _ _) (ci := 3) rfl inlX3 (j := 12) (by decide) rfl tw_74 (Or.inl rfl) dX3_forgetThings_6 ?_
  obtain ⟨S1, h1, hm⟩ := o1_some hm
  refine q_callV (pc := 9) (k := 36) (As := []) (rest := []) (T := TX5) C (c_Row_empty_36 hi h1) (by decide) (ce_36 _ _ _) (ci := 5) rfl tw_161 tw_124 tw_125 tw_43 tw_126 (nA := 0) (by decide +kernel) rfl (by decide) (Nat.le_of_ble_eq_true rfl) rfl dX3_forgetThings_9 ?_
  refine q_aload_n (pc := 12) C dX3_forgetThings_12 rfl 0 rfl ?_
  refine q_iconst (pc := 13) (v := (0 : Int32)) C dX3_forgetThings_13 (by decide) ?_
  refine q_put (pc := 14) (T := TX3) (ty := .int) C tyX3 tyX3_ok nmX3 (by decide) (ce_31 _ _ _) (pe_31_14 _ _ _ _) (ci := 3) rfl inlX3 (j := 14) (by decide) (Nat.le_of_ble_eq_true rfl) tw_160 (Or.inl rfl) rfl (by decide +kernel) rfl rfl dX3_forgetThings_14 ?_
  cases hm
  exact q_vret (pc := 17) C dX3_forgetThings_17
set_option maxRecDepth 100000 in
theorem c_St_resetCounters_Mar_31 {G : Gx} (hi : qinj (gad G)) {S : St}  {zu : Unit} (hm : m_St_resetCounters_Mar S  = some zu) : QMet G yX7_resetCounters cX7_resetCounters 1 none 0 0 [.ref (gad G 31)] S none S := by
  refine q_entry (by decide +kernel) rfl hi (Nat.le_of_ble_eq_true rfl) ?_
  intro X C
  refine q_lv (lv' := [(0, .ref (gad G 31))]) [0] rfl ?_
  unfold m_St_resetCounters_Mar at hm
  cases hm
  exact q_vret (pc := 0) C dX7_resetCounters_0
set_option maxRecDepth 100000 in
theorem c_St_startAnew_Mar_31 {G : Gx} (hi : qinj (gad G)) {S : St} {a1 : Int32} {zS : St} (hm : m_St_startAnew_Mar S a1 = some zS) : QMet G yX7_startAnew cX7_startAnew 2 none 2 41 [.ref (gad G 31), .int a1] S none zS := by
  refine q_entry (by decide +kernel) rfl hi (Nat.le_of_ble_eq_true rfl) ?_
  intro X C
  refine q_lv (lv' := [(0, .ref (gad G 31)), (1, .int a1)]) [0, 1] rfl ?_
  unfold m_St_startAnew_Mar at hm
  refine q_aload_n (pc := 0) C dX7_startAnew_0 rfl 0 rfl ?_
  refine q_iload_n (pc := 1) C dX7_startAnew_1 rfl 1 rfl ?_
  refine q_put (pc := 2) (T := TX3) (ty := .int) C tyX3 tyX3_ok nmX3 (by decide) (ce_31 _ _ _) (pe_31_2 _ _ _ _) (ci := 3) rfl inlX3 (j := 2) (by decide) (Nat.le_of_ble_eq_true rfl) tw_68 (Or.inl rfl) rfl (by decide +kernel) rfl rfl dX7_startAnew_2 ?_
  refine q_aload_n (pc := 5) C dX7_startAnew_5 rfl 0 rfl ?_
  refine q_iconst (pc := 6) (v := (0 : Int32)) C dX7_startAnew_6 (by decide) ?_
  refine q_put (pc := 7) (T := TX3) (ty := .int) C tyX3 tyX3_ok nmX3 (by decide) (ce_31 _ _ _) (pe_31_3 _ _ _ _) (ci := 3) rfl inlX3 (j := 3) (by decide) (Nat.le_of_ble_eq_true rfl) tw_133 (Or.inl rfl) rfl (by decide +kernel) rfl rfl dX7_startAnew_7 ?_
  refine q_aload_n (pc := 10) C dX7_startAnew_10 rfl 0 rfl ?_
  refine q_iconst (pc := 11) (v := (0 : Int32)) C dX7_startAnew_11 (by decide) ?_
  refine q_put (pc := 12) (T := TX3) (ty := .int) C tyX3 tyX3_ok nmX3 (by decide) (ce_31 _ _ _) (pe_31_4 _ _ _ _) (ci := 3) rfl inlX3 (j := 4) (by decide) (Nat.le_of_ble_eq_true rfl) tw_134 (Or.inl rfl) rfl (by decide +kernel) rfl rfl dX7_startAnew_12 ?_
  refine q_aload_n (pc := 15) C dX7_startAnew_15 rfl 0 rfl ?_
  refine q_iconst (pc := 16) (v := (0 : Int32)) C dX7_startAnew_16 (by decide) ?_
  refine q_put (pc := 17) (T := TX3) (ty := .int) C tyX3 tyX3_ok nmX3 (by decide) (ce_31 _ _ _) (pe_31_5 _ _ _ _) (ci := 3) rfl inlX3 (j := 5) (by decide) (Nat.le_of_ble_eq_true rfl) tw_135 (Or.inl rfl) rfl (by decide +kernel) rfl rfl dX7_startAnew_17 ?_
  refine q_aload_n (pc := 20) C dX7_startAnew_20 rfl 0 rfl ?_
  refine q_iconst (pc := 21) (v := (0 : Int32)) C dX7_startAnew_21 (by decide) ?_
  refine q_put (pc := 22) (T := TX3) (ty := .boolean) C tyX3 tyX3_ok nmX3 (by decide) (ce_31 _ _ _) (pe_31_6 _ _ _ _) (ci := 3) rfl inlX3 (j := 6) (by decide) (Nat.le_of_ble_eq_true rfl) tw_136 (Or.inl rfl) rfl (by decide +kernel) (by decide) (by decide) dX7_startAnew_22 ?_
  refine q_aload_n (pc := 25) C dX7_startAnew_25 rfl 0 rfl ?_
  refine q_iconst (pc := 26) (v := (0 : Int32)) C dX7_startAnew_26 (by decide) ?_
  refine q_put (pc := 27) (T := TX3) (ty := .int) C tyX3 tyX3_ok nmX3 (by decide) (ce_31 _ _ _) (pe_31_7 _ _ _ _) (ci := 3) rfl inlX3 (j := 7) (by decide) (Nat.le_of_ble_eq_true rfl) tw_137 (Or.inl rfl) rfl (by decide +kernel) rfl rfl dX7_startAnew_27 ?_
  refine q_aload_n (pc := 30) C dX7_startAnew_30 rfl 0 rfl ?_
  obtain ⟨S1, h1, hm⟩ := o1_some hm
  refine q_callU (pc := 31) (k := 31) (As := []) (rest := []) (T := TX3) (owner := "Tessera$Store") (x := ⟨"Tessera$Store", "letAllGo", "()V"⟩) C (c_St_letAllGo_31 hi h1) (by decide) (ce_31 _ _ _) (ci := 3) rfl (Or.inl rfl) tw_138 tw_139 tw_141 tw_144 tw_62 tw_142 (nA := 0) (by decide +kernel) rfl (by decide) (Nat.le_of_ble_eq_true rfl) rfl dX7_startAnew_31 ?_
  refine q_aload_n (pc := 34) C dX7_startAnew_34 rfl 0 rfl ?_
  obtain ⟨S2, h2, hm⟩ := o1_some hm
  refine q_callU (pc := 35) (k := 31) (As := []) (rest := []) (T := TX3) (owner := "Tessera$Store") (x := ⟨"Tessera$Store", "forgetThings", "()V"⟩) C (c_Mar_forgetThings hi h2) (by decide) (ce_31 _ _ _) (ci := 3) rfl (Or.inr (Or.inl (by decide))) tw_146 tw_147 tw_157 tw_156 tw_19 tw_158 (nA := 0) (by decide +kernel) rfl (by decide) (Nat.le_of_ble_eq_true rfl) rfl dX7_startAnew_35 ?_
  refine q_aload_n (pc := 38) C dX7_startAnew_38 rfl 0 rfl ?_
  obtain ⟨u1, h3, hm⟩ := o1_some hm
  refine q_callU (pc := 39) (k := 31) (As := []) (rest := []) (T := TX3) (owner := "Tessera$Store") (x := ⟨"Tessera$Store", "resetCounters", "()V"⟩) C (c_St_resetCounters_Mar_31 hi h3) (by decide) (ce_31 _ _ _) (ci := 3) rfl (Or.inl rfl) tw_169 tw_170 tw_172 tw_179 tw_62 tw_173 (nA := 0) (by decide +kernel) rfl (by decide) (Nat.le_of_ble_eq_true rfl) rfl dX7_startAnew_39 ?_
  cases hm
  exact q_vret (pc := 42) C dX7_startAnew_42
set_option maxRecDepth 100000 in
theorem w_St_letAllGo_42_L2 {G : Gx} (hi : qinj (gad G)) {X : Cx} (C : QC G X cX7_letAllGo 2 RX7 0 0 none) {Q : State → Prop} : ∀ (n : Nat) (S : St) (v1 : Int32) (zS : St), m_St_letAllGo_L2 42 1 n S v1 = some zS → QW G X 2 Q 21 [] [] zS → QW G X 2 Q 2 [(0, .ref (gad G 42)), (1, .int v1)] [] S := by
  intro n
  induction n with
  | zero =>
    intro S v1 zS hm kk
    rw [m_St_letAllGo_L2] at hm
    cases hm
  | succ n ih =>
    intro S v1 zS hm kk
    rw [m_St_letAllGo_L2] at hm
    refine q_iload_n (pc := 2) C dX7_letAllGo_2 rfl 1 rfl ?_
    refine q_bipush (pc := 3) (v := (80 : Int32)) C dX7_letAllGo_3 (by decide) ?_
    refine q_icmp_ge (pc := 5) (tgt := 21) C dX7_letAllGo_5 (by decide) (fun c1 => ?_) (fun c1 => ?_)
    · replace hm := hm_t c1 hm
      cases hm
      refine q_lv (lv' := []) [] rfl ?_
      exact kk
    · replace hm := hm_f c1 hm
      refine q_aload_n (pc := 8) C dX7_letAllGo_8 rfl 0 rfl ?_
      refine q_get (pc := 9) (T := TX1) (v := .ref (gad G 43)) C (by decide) (ce_42 _ _ _) (ci := 1) rfl inlX1 (j := 8) (by decide) rfl tw_65 (Or.inl rfl) dX7_letAllGo_9 ?_
      refine q_iload_n (pc := 12) C dX7_letAllGo_12 rfl 1 rfl ?_
      refine q_iconst (pc := 13) (v := (0 : Int32)) C dX7_letAllGo_13 (by decide) ?_
      obtain ⟨b1, hm⟩ := oi_some hm
      refine q_zast0 (pc := 14) C (by decide) (fun _ => ce_43 _ _ _) (ty_43 _) b1 dX7_letAllGo_14 ?_
      refine q_iinc (pc := 15) (k := 1) (v := (v1 + (1 : Int32))) (lv' := [(1, .int (v1 + (1 : Int32))), (0, .ref (gad G 42))]) C dX7_letAllGo_15 rfl rfl (by decide) rfl ?_
      refine q_goto (pc := 18) (tgt := 2) C dX7_letAllGo_18 (by decide) ?_
      refine q_lv (lv' := [(0, .ref (gad G 42)), (1, .int (v1 + (1 : Int32)))]) [1, 0] rfl ?_
      exact ih _ _ _ hm kk
set_option maxRecDepth 100000 in
theorem c_St_letAllGo_42 {G : Gx} (hi : qinj (gad G)) {S : St}  {zS : St} (hm : m_St_letAllGo 42 1 S  = some zS) : QMet G yX7_letAllGo cX7_letAllGo 2 none 0 0 [.ref (gad G 42)] S none zS := by
  refine q_entry (by decide +kernel) rfl hi (Nat.le_of_ble_eq_true rfl) ?_
  intro X C
  refine q_lv (lv' := [(0, .ref (gad G 42))]) [0] rfl ?_
  unfold m_St_letAllGo at hm
  refine q_iconst (pc := 0) (v := (0 : Int32)) C dX7_letAllGo_0 (by decide) ?_
  refine q_istore_n (pc := 1) (lv' := [(1, .int (0 : Int32)), (0, .ref (gad G 42))]) C dX7_letAllGo_1 rfl (by decide) rfl ?_
  refine q_lv (lv' := [(0, .ref (gad G 42)), (1, .int (0 : Int32))]) [1, 0] rfl ?_
  obtain ⟨S1, h1, hm⟩ := o1_some hm
  refine w_St_letAllGo_42_L2 hi C 200 _ _ _ h1 ?_
  cases hm
  exact q_vret (pc := 21) C dX7_letAllGo_21
set_option maxRecDepth 100000 in
theorem w_Cou_forgetThings_L2 {G : Gx} (hi : qinj (gad G)) {X : Cx} (C : QC G X cX1_forgetThings 2 RX1 0 0 none) {Q : State → Prop} : ∀ (n : Nat) (S : St) (v1 : Int32) (zS : St), m_Cou_forgetThings_L2 n S v1 = some zS → QW G X 2 Q 21 [] [] zS → QW G X 2 Q 2 [(0, .ref (gad G 42)), (1, .int v1)] [] S := by
  intro n
  induction n with
  | zero =>
    intro S v1 zS hm kk
    rw [m_Cou_forgetThings_L2] at hm
    cases hm
  | succ n ih =>
    intro S v1 zS hm kk
    rw [m_Cou_forgetThings_L2] at hm
    refine q_iload_n (pc := 2) C dX1_forgetThings_2 rfl 1 rfl ?_
    refine q_bipush (pc := 3) (v := (80 : Int32)) C dX1_forgetThings_3 (by decide) ?_
    refine q_icmp_ge (pc := 5) (tgt := 21) C dX1_forgetThings_5 (by decide) (fun c1 => ?_) (fun c1 => ?_)
    · replace hm := hm_t c1 hm
      cases hm
      refine q_lv (lv' := []) [] rfl ?_
      exact kk
    · replace hm := hm_f c1 hm
      refine q_aload_n (pc := 8) C dX1_forgetThings_8 rfl 0 rfl ?_
      refine q_get (pc := 9) (T := TX1) (v := .ref (gad G 47)) C (by decide) (ce_42 _ _ _) (ci := 1) rfl inlX1 (j := 12) (by decide) rfl tw_86 (Or.inl rfl) dX1_forgetThings_9 ?_
      refine q_iload_n (pc := 12) C dX1_forgetThings_12 rfl 1 rfl ?_
      refine q_iconst (pc := 13) (v := (0 : Int32)) C dX1_forgetThings_13 (by decide) ?_
      obtain ⟨b1, hm⟩ := oi_some hm
      refine q_zast0 (pc := 14) C (by decide) (fun _ => ce_47 _ _ _) (ty_47 _) b1 dX1_forgetThings_14 ?_
      refine q_iinc (pc := 15) (k := 1) (v := (v1 + (1 : Int32))) (lv' := [(1, .int (v1 + (1 : Int32))), (0, .ref (gad G 42))]) C dX1_forgetThings_15 rfl rfl (by decide) rfl ?_
      refine q_goto (pc := 18) (tgt := 2) C dX1_forgetThings_18 (by decide) ?_
      refine q_lv (lv' := [(0, .ref (gad G 42)), (1, .int (v1 + (1 : Int32)))]) [1, 0] rfl ?_
      exact ih _ _ _ hm kk
set_option maxRecDepth 100000 in
theorem c_Cou_forgetThings {G : Gx} (hi : qinj (gad G)) {S : St}  {zS : St} (hm : m_Cou_forgetThings S  = some zS) : QMet G yX1_forgetThings cX1_forgetThings 2 none 0 0 [.ref (gad G 42)] S none zS := by
  refine q_entry (by decide +kernel) rfl hi (Nat.le_of_ble_eq_true rfl) ?_
  intro X C
  refine q_lv (lv' := [(0, .ref (gad G 42))]) [0] rfl ?_
  unfold m_Cou_forgetThings at hm
  refine q_iconst (pc := 0) (v := (0 : Int32)) C dX1_forgetThings_0 (by decide) ?_
  refine q_istore_n (pc := 1) (lv' := [(1, .int (0 : Int32)), (0, .ref (gad G 42))]) C dX1_forgetThings_1 rfl (by decide) rfl ?_
  refine q_lv (lv' := [(0, .ref (gad G 42)), (1, .int (0 : Int32))]) [1, 0] rfl ?_
  obtain ⟨S1, h1, hm⟩ := o1_some hm
  refine w_Cou_forgetThings_L2 hi C 200 _ _ _ h1 ?_
  cases hm
  exact q_vret (pc := 21) C dX1_forgetThings_21
set_option maxRecDepth 100000 in
theorem c_Cou_resetCounters {G : Gx} (hi : qinj (gad G)) {S : St}  {zS : St} (hm : m_Cou_resetCounters S  = some zS) : QMet G yX1_resetCounters cX1_resetCounters 1 none 0 0 [.ref (gad G 42)] S none zS := by
  refine q_entry (by decide +kernel) rfl hi (Nat.le_of_ble_eq_true rfl) ?_
  intro X C
  refine q_lv (lv' := [(0, .ref (gad G 42))]) [0] rfl ?_
  unfold m_Cou_resetCounters at hm
  refine q_aload_n (pc := 0) C dX1_resetCounters_0 rfl 0 rfl ?_
  refine q_iconst (pc := 1) (v := (0 : Int32)) C dX1_resetCounters_1 (by decide) ?_
  refine q_put (pc := 2) (T := TX1) (ty := .int) C tyX1 tyX1_ok nmX1 (by decide) (ce_42 _ _ _) (pe_42_10 _ _ _ _) (ci := 1) rfl inlX1 (j := 10) (by decide) (Nat.le_of_ble_eq_true rfl) tw_178 (Or.inl rfl) rfl (by decide +kernel) rfl rfl dX1_resetCounters_2 ?_
  cases hm
  exact q_vret (pc := 5) C dX1_resetCounters_5
set_option maxRecDepth 100000 in
theorem c_St_startAnew_Cou_42 {G : Gx} (hi : qinj (gad G)) {S : St} {a1 : Int32} {zS : St} (hm : m_St_startAnew_Cou S a1 = some zS) : QMet G yX7_startAnew cX7_startAnew 2 none 1 21 [.ref (gad G 42), .int a1] S none zS := by
  refine q_entry (by decide +kernel) rfl hi (Nat.le_of_ble_eq_true rfl) ?_
  intro X C
  refine q_lv (lv' := [(0, .ref (gad G 42)), (1, .int a1)]) [0, 1] rfl ?_
  unfold m_St_startAnew_Cou at hm
  refine q_aload_n (pc := 0) C dX7_startAnew_0 rfl 0 rfl ?_
  refine q_iload_n (pc := 1) C dX7_startAnew_1 rfl 1 rfl ?_
  refine q_put (pc := 2) (T := TX1) (ty := .int) C tyX1 tyX1_ok nmX1 (by decide) (ce_42 _ _ _) (pe_42_2 _ _ _ _) (ci := 1) rfl inlX1 (j := 2) (by decide) (Nat.le_of_ble_eq_true rfl) tw_68 (Or.inl rfl) rfl (by decide +kernel) rfl rfl dX7_startAnew_2 ?_
  refine q_aload_n (pc := 5) C dX7_startAnew_5 rfl 0 rfl ?_
  refine q_iconst (pc := 6) (v := (0 : Int32)) C dX7_startAnew_6 (by decide) ?_
  refine q_put (pc := 7) (T := TX1) (ty := .int) C tyX1 tyX1_ok nmX1 (by decide) (ce_42 _ _ _) (pe_42_3 _ _ _ _) (ci := 1) rfl inlX1 (j := 3) (by decide) (Nat.le_of_ble_eq_true rfl) tw_133 (Or.inl rfl) rfl (by decide +kernel) rfl rfl dX7_startAnew_7 ?_
  refine q_aload_n (pc := 10) C dX7_startAnew_10 rfl 0 rfl ?_
  refine q_iconst (pc := 11) (v := (0 : Int32)) C dX7_startAnew_11 (by decide) ?_
  refine q_put (pc := 12) (T := TX1) (ty := .int) C tyX1 tyX1_ok nmX1 (by decide) (ce_42 _ _ _) (pe_42_4 _ _ _ _) (ci := 1) rfl inlX1 (j := 4) (by decide) (Nat.le_of_ble_eq_true rfl) tw_134 (Or.inl rfl) rfl (by decide +kernel) rfl rfl dX7_startAnew_12 ?_
  refine q_aload_n (pc := 15) C dX7_startAnew_15 rfl 0 rfl ?_
  refine q_iconst (pc := 16) (v := (0 : Int32)) C dX7_startAnew_16 (by decide) ?_
  refine q_put (pc := 17) (T := TX1) (ty := .int) C tyX1 tyX1_ok nmX1 (by decide) (ce_42 _ _ _) (pe_42_5 _ _ _ _) (ci := 1) rfl inlX1 (j := 5) (by decide) (Nat.le_of_ble_eq_true rfl) tw_135 (Or.inl rfl) rfl (by decide +kernel) rfl rfl dX7_startAnew_17 ?_
  refine q_aload_n (pc := 20) C dX7_startAnew_20 rfl 0 rfl ?_
  refine q_iconst (pc := 21) (v := (0 : Int32)) C dX7_startAnew_21 (by decide) ?_
  refine q_put (pc := 22) (T := TX1) (ty := .boolean) C tyX1 tyX1_ok nmX1 (by decide) (ce_42 _ _ _) (pe_42_6 _ _ _ _) (ci := 1) rfl inlX1 (j := 6) (by decide) (Nat.le_of_ble_eq_true rfl) tw_136 (Or.inl rfl) rfl (by decide +kernel) (by decide) (by decide) dX7_startAnew_22 ?_
  refine q_aload_n (pc := 25) C dX7_startAnew_25 rfl 0 rfl ?_
  refine q_iconst (pc := 26) (v := (0 : Int32)) C dX7_startAnew_26 (by decide) ?_
  refine q_put (pc := 27) (T := TX1) (ty := .int) C tyX1 tyX1_ok nmX1 (by decide) (ce_42 _ _ _) (pe_42_7 _ _ _ _) (ci := 1) rfl inlX1 (j := 7) (by decide) (Nat.le_of_ble_eq_true rfl) tw_137 (Or.inl rfl) rfl (by decide +kernel) rfl rfl dX7_startAnew_27 ?_
  refine q_aload_n (pc := 30) C dX7_startAnew_30 rfl 0 rfl ?_
  obtain ⟨S1, h1, hm⟩ := o1_some hm
  refine q_callU (pc := 31) (k := 42) (As := []) (rest := []) (T := TX1) (owner := "Tessera$Store") (x := ⟨"Tessera$Store", "letAllGo", "()V"⟩) C (c_St_letAllGo_42 hi h1) (by decide) (ce_42 _ _ _) (ci := 1) rfl (Or.inl rfl) tw_138 tw_139 tw_141 tw_143 tw_62 tw_142 (nA := 0) (by decide +kernel) rfl (by decide) (Nat.le_of_ble_eq_true rfl) rfl dX7_startAnew_31 ?_
  refine q_aload_n (pc := 34) C dX7_startAnew_34 rfl 0 rfl ?_
  obtain ⟨S2, h2, hm⟩ := o1_some hm
  refine q_callU (pc := 35) (k := 42) (As := []) (rest := []) (T := TX1) (owner := "Tessera$Store") (x := ⟨"Tessera$Store", "forgetThings", "()V"⟩) C (c_Cou_forgetThings hi h2) (by decide) (ce_42 _ _ _) (ci := 1) rfl (Or.inr (Or.inl (by decide))) tw_146 tw_147 tw_154 tw_153 tw_22 tw_155 (nA := 0) (by decide +kernel) rfl (by decide) (Nat.le_of_ble_eq_true rfl) rfl dX7_startAnew_35 ?_
  refine q_aload_n (pc := 38) C dX7_startAnew_38 rfl 0 rfl ?_
  obtain ⟨S3, h3, hm⟩ := o1_some hm
  refine q_callU (pc := 39) (k := 42) (As := []) (rest := []) (T := TX1) (owner := "Tessera$Store") (x := ⟨"Tessera$Store", "resetCounters", "()V"⟩) C (c_Cou_resetCounters hi h3) (by decide) (ce_42 _ _ _) (ci := 1) rfl (Or.inr (Or.inr ⟨_, _, _, tw_174, tw_173⟩)) tw_169 tw_170 tw_176 tw_175 tw_22 tw_177 (nA := 0) (by decide +kernel) rfl (by decide) (Nat.le_of_ble_eq_true rfl) rfl dX7_startAnew_39 ?_
  cases hm
  exact q_vret (pc := 42) C dX7_startAnew_42
set_option maxRecDepth 100000 in
theorem c_Te_begin {G : Gx} (hi : qinj (gad G)) {S : St} {a1 : Int32} {zr : Int32} {zS : St} (hm : m_Te_begin S a1 = some (zr, zS)) : QMet G yX8_begin cX8_begin 4 (some .int) 3 62 [.ref (gad G 0), .int a1] S (some (.int zr)) zS := by
  refine q_entry (by decide +kernel) rfl hi (Nat.le_of_ble_eq_true rfl) ?_
  intro X C
  refine q_lv (lv' := [(0, .ref (gad G 0)), (1, .int a1)]) [0, 1] rfl ?_
  unfold m_Te_begin at hm
  refine q_iload_n (pc := 0) C dX8_begin_0 rfl 1 rfl ?_
  refine q_bipush (pc := 1) (v := (40 : Int32)) C dX8_begin_1 (by decide) ?_
  refine q_icmp_lt (pc := 3) (tgt := 13) C dX8_begin_3 (by decide) (fun c1 => ?_) (fun c1 => ?_)
  · replace hm := hm_t c1 hm
    cases hm
  · replace hm := hm_f c1 hm
    refine q_iload_n (pc := 6) C dX8_begin_6 rfl 1 rfl ?_
    refine q_sipush (pc := 7) (v := (160 : Int32)) C dX8_begin_7 (by decide) ?_
    refine q_icmp_le (pc := 10) (tgt := 23) C dX8_begin_10 (by decide) (fun c2 => ?_) (fun c2 => ?_)
    · replace hm := hm_t c2 hm
      refine q_aload_n (pc := 23) C dX8_begin_23 rfl 0 rfl ?_
      refine q_get (pc := 24) (T := TX8) (v := .int (S 0 5)) C (by decide) (ce_0 _ _ _) (ci := 6) rfl inlX8 (j := 5) (by decide) rfl tw_32 (Or.inl rfl) dX8_begin_24 ?_
      refine q_istore_n (pc := 27) (lv' := [(2, .int (S 0 5)), (0, .ref (gad G 0)), (1, .int a1)]) C dX8_begin_27 rfl (by decide) rfl ?_
      refine q_aload_n (pc := 28) C dX8_begin_28 rfl 1 rfl ?_
      refine q_iload_n (pc := 29) C dX8_begin_29 rfl 2 rfl ?_
      refine q_put (pc := 30) (T := TX8) (ty := .int) C tyX8 tyX8_ok nmX8 (by decide) (ce_0 _ _ _) (pe_0_5 _ _ _ _) (ci := 6) rfl inlX8 (j := 5) (by decide) (Nat.le_of_ble_eq_true rfl) tw_32 (Or.inl rfl) rfl (by decide +kernel) rfl rfl dX8_begin_30 ?_
      refine q_aload_n (pc := 33) C dX8_begin_33 rfl 1 rfl ?_
      refine q_get (pc := 34) (T := TX8) (v := .ref (gad G 1)) C (by decide) (ce_0 _ _ _) (ci := 6) rfl inlX8 (j := 0) (by decide) rfl tw_27 (Or.inl rfl) dX8_begin_34 ?_
      obtain ⟨S1, h1, hm⟩ := o1_some hm
      refine q_callV (pc := 37) (k := 1) (As := []) (rest := []) (T := TX2) C (c_Gr_startAnew hi h1) (by decide) (ce_1 _ _ _) (ci := 2) rfl tw_114 tw_115 tw_116 tw_13 tw_117 (nA := 0) (by decide +kernel) rfl (by decide) (Nat.le_of_ble_eq_true rfl) rfl dX8_begin_37 ?_
      refine q_iconst (pc := 40) (v := (0 : Int32)) C dX8_begin_40 (by decide) ?_
      refine q_istore_n (pc := 41) (lv' := [(3, .int (0 : Int32)), (2, .int (S 0 5)), (0, .ref (gad G 0)), (1, .int a1)]) C dX8_begin_41 rfl (by decide) rfl ?_
      refine q_iload_n (pc := 42) C dX8_begin_42 rfl 0 rfl ?_
      refine q_iconst (pc := 43) (v := (4 : Int32)) C dX8_begin_43 (by decide) ?_
      refine q_icmp_ge (pc := 44) (tgt := 63) C dX8_begin_44 (by decide) (fun c => absurd c (by decide)) (fun _ => ?_)
      refine q_aload_n (pc := 47) C dX8_begin_47 rfl 2 rfl ?_
      refine q_get (pc := 48) (T := TX8) (v := .ref (gad G 58)) C (by decide) (ce_0 _ _ _) (ci := 6) rfl inlX8 (j := 4) (by decide) rfl tw_31 (Or.inl rfl) dX8_begin_48 ?_
      refine q_iload_n (pc := 51) C dX8_begin_51 rfl 0 rfl ?_
      refine q_aald (pc := 52) (k := 12) (n := 0) C (by decide) (by decide) rfl dX8_begin_52 ?_
      refine q_iload_n (pc := 53) C dX8_begin_53 rfl 3 rfl ?_
      obtain ⟨S2, h2, hm⟩ := o1_some hm
      refine q_callU (pc := 54) (k := 12) (As := [.int a1]) (rest := []) (T := TX0) (owner := "Tessera$Store") (x := ⟨"Tessera$Store", "startAnew", "(I)V"⟩) C (c_St_startAnew_Cop_12 hi h2) (by decide) (ce_12 _ _ _) (ci := 0) rfl (Or.inl rfl) tw_128 tw_129 tw_131 tw_130 tw_62 tw_132 (nA := 1) (by decide +kernel) rfl (by decide) (Nat.le_of_ble_eq_true rfl) rfl dX8_begin_54 ?_
      refine q_iinc (pc := 57) (k := 0) (v := (1 : Int32)) (lv' := [(3, .int (1 : Int32)), (2, .int (S 0 5)), (0, .ref (gad G 0)), (1, .int a1)]) C dX8_begin_57 rfl (by decide) (by decide) rfl ?_
      refine q_goto (pc := 60) (tgt := 42) C dX8_begin_60 (by decide) ?_
      refine q_iload_n (pc := 42) C dX8_begin_42 rfl 0 rfl ?_
      refine q_iconst (pc := 43) (v := (4 : Int32)) C dX8_begin_43 (by decide) ?_
      refine q_icmp_ge (pc := 44) (tgt := 63) C dX8_begin_44 (by decide) (fun c => absurd c (by decide)) (fun _ => ?_)
      refine q_aload_n (pc := 47) C dX8_begin_47 rfl 2 rfl ?_
      refine q_get (pc := 48) (T := TX8) (v := .ref (gad G 58)) C (by decide) (ce_0 _ _ _) (ci := 6) rfl inlX8 (j := 4) (by decide) rfl tw_31 (Or.inl rfl) dX8_begin_48 ?_
      refine q_iload_n (pc := 51) C dX8_begin_51 rfl 0 rfl ?_
      refine q_aald (pc := 52) (k := 18) (n := 1) C (by decide) (by decide) rfl dX8_begin_52 ?_
      refine q_iload_n (pc := 53) C dX8_begin_53 rfl 3 rfl ?_
      obtain ⟨S3, h3, hm⟩ := o1_some hm
      refine q_callU (pc := 54) (k := 18) (As := [.int a1]) (rest := []) (T := TX4) (owner := "Tessera$Store") (x := ⟨"Tessera$Store", "startAnew", "(I)V"⟩) C (c_St_startAnew_Nur_18 hi h3) (by decide) (ce_18 _ _ _) (ci := 4) rfl (Or.inl rfl) tw_128 tw_129 tw_131 tw_187 tw_62 tw_132 (nA := 1) (by decide +kernel) rfl (by decide) (Nat.le_of_ble_eq_true rfl) rfl dX8_begin_54 ?_
      refine q_iinc (pc := 57) (k := 0) (v := (2 : Int32)) (lv' := [(3, .int (2 : Int32)), (2, .int (S 0 5)), (0, .ref (gad G 0)), (1, .int a1)]) C dX8_begin_57 rfl (by decide) (by decide) rfl ?_
      refine q_goto (pc := 60) (tgt := 42) C dX8_begin_60 (by decide) ?_
      refine q_iload_n (pc := 42) C dX8_begin_42 rfl 0 rfl ?_
      refine q_iconst (pc := 43) (v := (4 : Int32)) C dX8_begin_43 (by decide) ?_
      refine q_icmp_ge (pc := 44) (tgt := 63) C dX8_begin_44 (by decide) (fun c => absurd c (by decide)) (fun _ => ?_)
      refine q_aload_n (pc := 47) C dX8_begin_47 rfl 2 rfl ?_
      refine q_get (pc := 48) (T := TX8) (v := .ref (gad G 58)) C (by decide) (ce_0 _ _ _) (ci := 6) rfl inlX8 (j := 4) (by decide) rfl tw_31 (Or.inl rfl) dX8_begin_48 ?_
      refine q_iload_n (pc := 51) C dX8_begin_51 rfl 0 rfl ?_
      refine q_aald (pc := 52) (k := 31) (n := 2) C (by decide) (by decide) rfl dX8_begin_52 ?_
      refine q_iload_n (pc := 53) C dX8_begin_53 rfl 3 rfl ?_
      obtain ⟨S4, h4, hm⟩ := o1_some hm
      refine q_callU (pc := 54) (k := 31) (As := [.int a1]) (rest := []) (T := TX3) (owner := "Tessera$Store") (x := ⟨"Tessera$Store", "startAnew", "(I)V"⟩) C (c_St_startAnew_Mar_31 hi h4) (by decide) (ce_31 _ _ _) (ci := 3) rfl (Or.inl rfl) tw_128 tw_129 tw_131 tw_186 tw_62 tw_132 (nA := 1) (by decide +kernel) rfl (by decide) (Nat.le_of_ble_eq_true rfl) rfl dX8_begin_54 ?_
      refine q_iinc (pc := 57) (k := 0) (v := (3 : Int32)) (lv' := [(3, .int (3 : Int32)), (2, .int (S 0 5)), (0, .ref (gad G 0)), (1, .int a1)]) C dX8_begin_57 rfl (by decide) (by decide) rfl ?_
      refine q_goto (pc := 60) (tgt := 42) C dX8_begin_60 (by decide) ?_
      refine q_iload_n (pc := 42) C dX8_begin_42 rfl 0 rfl ?_
      refine q_iconst (pc := 43) (v := (4 : Int32)) C dX8_begin_43 (by decide) ?_
      refine q_icmp_ge (pc := 44) (tgt := 63) C dX8_begin_44 (by decide) (fun c => absurd c (by decide)) (fun _ => ?_)
      refine q_aload_n (pc := 47) C dX8_begin_47 rfl 2 rfl ?_
      refine q_get (pc := 48) (T := TX8) (v := .ref (gad G 58)) C (by decide) (ce_0 _ _ _) (ci := 6) rfl inlX8 (j := 4) (by decide) rfl tw_31 (Or.inl rfl) dX8_begin_48 ?_
      refine q_iload_n (pc := 51) C dX8_begin_51 rfl 0 rfl ?_
      refine q_aald (pc := 52) (k := 42) (n := 3) C (by decide) (by decide) rfl dX8_begin_52 ?_
      refine q_iload_n (pc := 53) C dX8_begin_53 rfl 3 rfl ?_
      obtain ⟨S5, h5, hm⟩ := o1_some hm
      refine q_callU (pc := 54) (k := 42) (As := [.int a1]) (rest := []) (T := TX1) (owner := "Tessera$Store") (x := ⟨"Tessera$Store", "startAnew", "(I)V"⟩) C (c_St_startAnew_Cou_42 hi h5) (by decide) (ce_42 _ _ _) (ci := 1) rfl (Or.inl rfl) tw_128 tw_129 tw_131 tw_185 tw_62 tw_132 (nA := 1) (by decide +kernel) rfl (by decide) (Nat.le_of_ble_eq_true rfl) rfl dX8_begin_54 ?_
      refine q_iinc (pc := 57) (k := 0) (v := (4 : Int32)) (lv' := [(3, .int (4 : Int32)), (2, .int (S 0 5)), (0, .ref (gad G 0)), (1, .int a1)]) C dX8_begin_57 rfl (by decide) (by decide) rfl ?_
      refine q_goto (pc := 60) (tgt := 42) C dX8_begin_60 (by decide) ?_
      refine q_iload_n (pc := 42) C dX8_begin_42 rfl 0 rfl ?_
      refine q_iconst (pc := 43) (v := (4 : Int32)) C dX8_begin_43 (by decide) ?_
      refine q_icmp_ge (pc := 44) (tgt := 63) C dX8_begin_44 (by decide) (fun _ => ?_) (fun c => absurd c (by decide))
      refine q_iload_n (pc := 63) C dX8_begin_63 rfl 1 rfl ?_
      cases hm
      exact q_iret (pc := 64) C dX8_begin_64
    · replace hm := hm_f c2 hm
      cases hm
set_option maxRecDepth 100000 in
theorem c_Te_things {G : Gx} (hi : qinj (gad G)) {S : St}  {zr : Int32} (hm : m_Te_things S  = some zr) : QMet G yX8_things cX8_things 1 (some .int) 0 0 [.ref (gad G 0)] S (some (.int zr)) S := by
  refine q_entry (by decide +kernel) rfl hi (Nat.le_of_ble_eq_true rfl) ?_
  intro X C
  refine q_lv (lv' := [(0, .ref (gad G 0))]) [0] rfl ?_
  unfold m_Te_things at hm
  refine q_aload_n (pc := 0) C dX8_things_0 rfl 0 rfl ?_
  refine q_get (pc := 1) (T := TX8) (v := .ref (gad G 1)) C (by decide) (ce_0 _ _ _) (ci := 6) rfl inlX8 (j := 0) (by decide) rfl tw_27 (Or.inl rfl) dX8_things_1 ?_
  refine q_get (pc := 4) (T := TX2) (v := .int (S 1 6)) C (by decide) (ce_1 _ _ _) (ci := 2) rfl inlX2 (j := 6) (by decide) rfl tw_192 (Or.inl rfl) dX8_things_4 ?_
  cases hm
  exact q_iret (pc := 7) C dX8_things_7
set_option maxRecDepth 100000 in
theorem c_Te_checkRoot {G : Gx} (hi : qinj (gad G)) {S : St} {a0 : Int32} {zu : Unit} (hm : m_Te_checkRoot S a0 = some zu) : QMet G yX8_checkRoot cX8_checkRoot 1 none 0 0 [.int a0] S none S := by
  refine q_entry (by decide +kernel) rfl hi (Nat.le_of_ble_eq_true rfl) ?_
  intro X C
  refine q_lv (lv' := [(0, .int a0)]) [0] rfl ?_
  unfold m_Te_checkRoot at hm
  refine q_iload_n (pc := 0) C dX8_checkRoot_0 rfl 0 rfl ?_
  refine q_if_lt (pc := 1) (tgt := 10) C dX8_checkRoot_1 (by decide) (fun c1 => ?_) (fun c1 => ?_)
  · replace hm := hm_t c1 hm
    cases hm
  · replace hm := hm_f c1 hm
    refine q_iload_n (pc := 4) C dX8_checkRoot_4 rfl 0 rfl ?_
    refine q_bipush (pc := 5) (v := (6 : Int32)) C dX8_checkRoot_5 (by decide) ?_
    refine q_icmp_lt (pc := 7) (tgt := 21) C dX8_checkRoot_7 (by decide) (fun c2 => ?_) (fun c2 => ?_)
    · replace hm := hm_t c2 hm
      cases hm
      exact q_vret (pc := 21) C dX8_checkRoot_21
    · replace hm := hm_f c2 hm
      cases hm
set_option maxRecDepth 100000 in
theorem c_St_openPause_12 {G : Gx} (hi : qinj (gad G)) {S : St}  {zS : St} (hm : m_St_openPause 12 0 S  = some zS) : QMet G yX7_openPause cX7_openPause 1 none 0 0 [.ref (gad G 12)] S none zS := by
  refine q_entry (by decide +kernel) rfl hi (Nat.le_of_ble_eq_true rfl) ?_
  intro X C
  refine q_lv (lv' := [(0, .ref (gad G 12))]) [0] rfl ?_
  unfold m_St_openPause at hm
  refine q_aload_n (pc := 0) C dX7_openPause_0 rfl 0 rfl ?_
  refine q_aload_n (pc := 1) C dX7_openPause_1 rfl 0 rfl ?_
  refine q_get (pc := 2) (T := TX0) (v := .int (S 12 2)) C (by decide) (ce_12 _ _ _) (ci := 0) rfl inlX0 (j := 2) (by decide) rfl tw_133 (Or.inl rfl) dX7_openPause_2 ?_
  refine q_put (pc := 5) (T := TX0) (ty := .int) C tyX0 tyX0_ok nmX0 (by decide) (ce_12 _ _ _) (pe_12_6 _ _ _ _) (ci := 0) rfl inlX0 (j := 6) (by decide) (Nat.le_of_ble_eq_true rfl) tw_137 (Or.inl rfl) rfl (by decide +kernel) rfl rfl dX7_openPause_5 ?_
  cases hm
  exact q_vret (pc := 8) C dX7_openPause_8
set_option maxRecDepth 100000 in
theorem c_St_openPause_18 {G : Gx} (hi : qinj (gad G)) {S : St}  {zS : St} (hm : m_St_openPause 18 0 S  = some zS) : QMet G yX7_openPause cX7_openPause 1 none 0 0 [.ref (gad G 18)] S none zS := by
  refine q_entry (by decide +kernel) rfl hi (Nat.le_of_ble_eq_true rfl) ?_
  intro X C
  refine q_lv (lv' := [(0, .ref (gad G 18))]) [0] rfl ?_
  unfold m_St_openPause at hm
  refine q_aload_n (pc := 0) C dX7_openPause_0 rfl 0 rfl ?_
  refine q_aload_n (pc := 1) C dX7_openPause_1 rfl 0 rfl ?_
  refine q_get (pc := 2) (T := TX4) (v := .int (S 18 2)) C (by decide) (ce_18 _ _ _) (ci := 4) rfl inlX4 (j := 2) (by decide) rfl tw_133 (Or.inl rfl) dX7_openPause_2 ?_
  refine q_put (pc := 5) (T := TX4) (ty := .int) C tyX4 tyX4_ok nmX4 (by decide) (ce_18 _ _ _) (pe_18_6 _ _ _ _) (ci := 4) rfl inlX4 (j := 6) (by decide) (Nat.le_of_ble_eq_true rfl) tw_137 (Or.inl rfl) rfl (by decide +kernel) rfl rfl dX7_openPause_5 ?_
  cases hm
  exact q_vret (pc := 8) C dX7_openPause_8
set_option maxRecDepth 100000 in
theorem c_St_openPause_31 {G : Gx} (hi : qinj (gad G)) {S : St}  {zS : St} (hm : m_St_openPause 31 1 S  = some zS) : QMet G yX7_openPause cX7_openPause 1 none 0 0 [.ref (gad G 31)] S none zS := by
  refine q_entry (by decide +kernel) rfl hi (Nat.le_of_ble_eq_true rfl) ?_
  intro X C
  refine q_lv (lv' := [(0, .ref (gad G 31))]) [0] rfl ?_
  unfold m_St_openPause at hm
  refine q_aload_n (pc := 0) C dX7_openPause_0 rfl 0 rfl ?_
  refine q_aload_n (pc := 1) C dX7_openPause_1 rfl 0 rfl ?_
  refine q_get (pc := 2) (T := TX3) (v := .int (S 31 3)) C (by decide) (ce_31 _ _ _) (ci := 3) rfl inlX3 (j := 3) (by decide) rfl tw_133 (Or.inl rfl) dX7_openPause_2 ?_
  refine q_put (pc := 5) (T := TX3) (ty := .int) C tyX3 tyX3_ok nmX3 (by decide) (ce_31 _ _ _) (pe_31_7 _ _ _ _) (ci := 3) rfl inlX3 (j := 7) (by decide) (Nat.le_of_ble_eq_true rfl) tw_137 (Or.inl rfl) rfl (by decide +kernel) rfl rfl dX7_openPause_5 ?_
  cases hm
  exact q_vret (pc := 8) C dX7_openPause_8
set_option maxRecDepth 100000 in
theorem c_St_openPause_42 {G : Gx} (hi : qinj (gad G)) {S : St}  {zS : St} (hm : m_St_openPause 42 1 S  = some zS) : QMet G yX7_openPause cX7_openPause 1 none 0 0 [.ref (gad G 42)] S none zS := by
  refine q_entry (by decide +kernel) rfl hi (Nat.le_of_ble_eq_true rfl) ?_
  intro X C
  refine q_lv (lv' := [(0, .ref (gad G 42))]) [0] rfl ?_
  unfold m_St_openPause at hm
  refine q_aload_n (pc := 0) C dX7_openPause_0 rfl 0 rfl ?_
  refine q_aload_n (pc := 1) C dX7_openPause_1 rfl 0 rfl ?_
  refine q_get (pc := 2) (T := TX1) (v := .int (S 42 3)) C (by decide) (ce_42 _ _ _) (ci := 1) rfl inlX1 (j := 3) (by decide) rfl tw_133 (Or.inl rfl) dX7_openPause_2 ?_
  refine q_put (pc := 5) (T := TX1) (ty := .int) C tyX1 tyX1_ok nmX1 (by decide) (ce_42 _ _ _) (pe_42_7 _ _ _ _) (ci := 1) rfl inlX1 (j := 7) (by decide) (Nat.le_of_ble_eq_true rfl) tw_137 (Or.inl rfl) rfl (by decide +kernel) rfl rfl dX7_openPause_5 ?_
  cases hm
  exact q_vret (pc := 8) C dX7_openPause_8
set_option maxRecDepth 100000 in
theorem c_Te_openPauses {G : Gx} (hi : qinj (gad G)) {S : St}  {zS : St} (hm : m_Te_openPauses S  = some zS) : QMet G yX8_openPauses cX8_openPauses 2 none 1 20 [.ref (gad G 0)] S none zS := by
  refine q_entry (by decide +kernel) rfl hi (Nat.le_of_ble_eq_true rfl) ?_
  intro X C
  refine q_lv (lv' := [(0, .ref (gad G 0))]) [0] rfl ?_
  unfold m_Te_openPauses at hm
  refine q_iconst (pc := 0) (v := (0 : Int32)) C dX8_openPauses_0 (by decide) ?_
  refine q_istore_n (pc := 1) (lv' := [(1, .int (0 : Int32)), (0, .ref (gad G 0))]) C dX8_openPauses_1 rfl (by decide) rfl ?_
  refine q_iload_n (pc := 2) C dX8_openPauses_2 rfl 0 rfl ?_
  refine q_iconst (pc := 3) (v := (4 : Int32)) C dX8_openPauses_3 (by decide) ?_
  refine q_icmp_ge (pc := 4) (tgt := 22) C dX8_openPauses_4 (by decide) (fun c => absurd c (by decide)) (fun _ => ?_)
  refine q_aload_n (pc := 7) C dX8_openPauses_7 rfl 1 rfl ?_
  refine q_get (pc := 8) (T := TX8) (v := .ref (gad G 58)) C (by decide) (ce_0 _ _ _) (ci := 6) rfl inlX8 (j := 4) (by decide) rfl tw_31 (Or.inl rfl) dX8_openPauses_8 ?_
  refine q_iload_n (pc := 11) C dX8_openPauses_11 rfl 0 rfl ?_
  refine q_aald (pc := 12) (k := 12) (n := 0) C (by decide) (by decide) rfl dX8_openPauses_12 ?_
  obtain ⟨S1, h1, hm⟩ := o1_some hm
  refine q_callU (pc := 13) (k := 12) (As := []) (rest := []) (T := TX0) (owner := "Tessera$Store") (x := ⟨"Tessera$Store", "openPause", "()V"⟩) C (c_St_openPause_12 hi h1) (by decide) (ce_12 _ _ _) (ci := 0) rfl (Or.inl rfl) tw_209 tw_210 tw_212 tw_211 tw_62 tw_213 (nA := 0) (by decide +kernel) rfl (by decide) (Nat.le_of_ble_eq_true rfl) rfl dX8_openPauses_13 ?_
  refine q_iinc (pc := 16) (k := 0) (v := (1 : Int32)) (lv' := [(1, .int (1 : Int32)), (0, .ref (gad G 0))]) C dX8_openPauses_16 rfl (by decide) (by decide) rfl ?_
  refine q_goto (pc := 19) (tgt := 2) C dX8_openPauses_19 (by decide) ?_
  refine q_iload_n (pc := 2) C dX8_openPauses_2 rfl 0 rfl ?_
  refine q_iconst (pc := 3) (v := (4 : Int32)) C dX8_openPauses_3 (by decide) ?_
  refine q_icmp_ge (pc := 4) (tgt := 22) C dX8_openPauses_4 (by decide) (fun c => absurd c (by decide)) (fun _ => ?_)
  refine q_aload_n (pc := 7) C dX8_openPauses_7 rfl 1 rfl ?_
  refine q_get (pc := 8) (T := TX8) (v := .ref (gad G 58)) C (by decide) (ce_0 _ _ _) (ci := 6) rfl inlX8 (j := 4) (by decide) rfl tw_31 (Or.inl rfl) dX8_openPauses_8 ?_
  refine q_iload_n (pc := 11) C dX8_openPauses_11 rfl 0 rfl ?_
  refine q_aald (pc := 12) (k := 18) (n := 1) C (by decide) (by decide) rfl dX8_openPauses_12 ?_
  obtain ⟨S2, h2, hm⟩ := o1_some hm
  refine q_callU (pc := 13) (k := 18) (As := []) (rest := []) (T := TX4) (owner := "Tessera$Store") (x := ⟨"Tessera$Store", "openPause", "()V"⟩) C (c_St_openPause_18 hi h2) (by decide) (ce_18 _ _ _) (ci := 4) rfl (Or.inl rfl) tw_209 tw_210 tw_212 tw_216 tw_62 tw_213 (nA := 0) (by decide +kernel) rfl (by decide) (Nat.le_of_ble_eq_true rfl) rfl dX8_openPauses_13 ?_
  refine q_iinc (pc := 16) (k := 0) (v := (2 : Int32)) (lv' := [(1, .int (2 : Int32)), (0, .ref (gad G 0))]) C dX8_openPauses_16 rfl (by decide) (by decide) rfl ?_
  refine q_goto (pc := 19) (tgt := 2) C dX8_openPauses_19 (by decide) ?_
  refine q_iload_n (pc := 2) C dX8_openPauses_2 rfl 0 rfl ?_
  refine q_iconst (pc := 3) (v := (4 : Int32)) C dX8_openPauses_3 (by decide) ?_
  refine q_icmp_ge (pc := 4) (tgt := 22) C dX8_openPauses_4 (by decide) (fun c => absurd c (by decide)) (fun _ => ?_)
  refine q_aload_n (pc := 7) C dX8_openPauses_7 rfl 1 rfl ?_
  refine q_get (pc := 8) (T := TX8) (v := .ref (gad G 58)) C (by decide) (ce_0 _ _ _) (ci := 6) rfl inlX8 (j := 4) (by decide) rfl tw_31 (Or.inl rfl) dX8_openPauses_8 ?_
  refine q_iload_n (pc := 11) C dX8_openPauses_11 rfl 0 rfl ?_
  refine q_aald (pc := 12) (k := 31) (n := 2) C (by decide) (by decide) rfl dX8_openPauses_12 ?_
  obtain ⟨S3, h3, hm⟩ := o1_some hm
  refine q_callU (pc := 13) (k := 31) (As := []) (rest := []) (T := TX3) (owner := "Tessera$Store") (x := ⟨"Tessera$Store", "openPause", "()V"⟩) C (c_St_openPause_31 hi h3) (by decide) (ce_31 _ _ _) (ci := 3) rfl (Or.inl rfl) tw_209 tw_210 tw_212 tw_215 tw_62 tw_213 (nA := 0) (by decide +kernel) rfl (by decide) (Nat.le_of_ble_eq_true rfl) rfl dX8_openPauses_13 ?_
  refine q_iinc (pc := 16) (k := 0) (v := (3 : Int32)) (lv' := [(1, .int (3 : Int32)), (0, .ref (gad G 0))]) C dX8_openPauses_16 rfl (by decide) (by decide) rfl ?_
  refine q_goto (pc := 19) (tgt := 2) C dX8_openPauses_19 (by decide) ?_
  refine q_iload_n (pc := 2) C dX8_openPauses_2 rfl 0 rfl ?_
  refine q_iconst (pc := 3) (v := (4 : Int32)) C dX8_openPauses_3 (by decide) ?_
  refine q_icmp_ge (pc := 4) (tgt := 22) C dX8_openPauses_4 (by decide) (fun c => absurd c (by decide)) (fun _ => ?_)
  refine q_aload_n (pc := 7) C dX8_openPauses_7 rfl 1 rfl ?_
  refine q_get (pc := 8) (T := TX8) (v := .ref (gad G 58)) C (by decide) (ce_0 _ _ _) (ci := 6) rfl inlX8 (j := 4) (by decide) rfl tw_31 (Or.inl rfl) dX8_openPauses_8 ?_
  refine q_iload_n (pc := 11) C dX8_openPauses_11 rfl 0 rfl ?_
  refine q_aald (pc := 12) (k := 42) (n := 3) C (by decide) (by decide) rfl dX8_openPauses_12 ?_
  obtain ⟨S4, h4, hm⟩ := o1_some hm
  refine q_callU (pc := 13) (k := 42) (As := []) (rest := []) (T := TX1) (owner := "Tessera$Store") (x := ⟨"Tessera$Store", "openPause", "()V"⟩) C (c_St_openPause_42 hi h4) (by decide) (ce_42 _ _ _) (ci := 1) rfl (Or.inl rfl) tw_209 tw_210 tw_212 tw_214 tw_62 tw_213 (nA := 0) (by decide +kernel) rfl (by decide) (Nat.le_of_ble_eq_true rfl) rfl dX8_openPauses_13 ?_
  refine q_iinc (pc := 16) (k := 0) (v := (4 : Int32)) (lv' := [(1, .int (4 : Int32)), (0, .ref (gad G 0))]) C dX8_openPauses_16 rfl (by decide) (by decide) rfl ?_
  refine q_goto (pc := 19) (tgt := 2) C dX8_openPauses_19 (by decide) ?_
  refine q_iload_n (pc := 2) C dX8_openPauses_2 rfl 0 rfl ?_
  refine q_iconst (pc := 3) (v := (4 : Int32)) C dX8_openPauses_3 (by decide) ?_
  refine q_icmp_ge (pc := 4) (tgt := 22) C dX8_openPauses_4 (by decide) (fun _ => ?_) (fun c => absurd c (by decide))
  cases hm
  exact q_vret (pc := 22) C dX8_openPauses_22
set_option maxRecDepth 100000 in
theorem w_Gr_addThing_L42 {G : Gx} (hi : qinj (gad G)) {X : Cx} (C : QC G X cX2_addThing 4 RX2 0 0 (some .int)) {Q : State → Prop} : ∀ (n : Nat) (S : St) (v2 : Int32) (v3 : Int32) (zS : St), m_Gr_addThing_L42 n S v2 v3 = some zS → QW G X 4 Q 64 [(2, .int v2)] [] zS → QW G X 4 Q 42 [(0, .ref (gad G 1)), (2, .int v2), (3, .int v3)] [] S := by
  intro n
  induction n with
  | zero =>
    intro S v2 v3 zS hm kk
    rw [m_Gr_addThing_L42] at hm
    cases hm
  | succ n ih =>
    intro S v2 v3 zS hm kk
    rw [m_Gr_addThing_L42] at hm
    refine q_iload_n (pc := 42) C dX2_addThing_42 rfl 2 rfl ?_
    refine q_iconst (pc := 43) (v := (3 : Int32)) C dX2_addThing_43 (by decide) ?_
    refine q_icmp_ge (pc := 44) (tgt := 64) C dX2_addThing_44 (by decide) (fun c1 => ?_) (fun c1 => ?_)
    · replace hm := hm_t c1 hm
      cases hm
      refine q_lv (lv' := [(2, .int v2)]) [1] rfl ?_
      exact kk
    · replace hm := hm_f c1 hm
      refine q_aload_n (pc := 47) C dX2_addThing_47 rfl 0 rfl ?_
      refine q_get (pc := 48) (T := TX2) (v := .ref (gad G 3)) C (by decide) (ce_1 _ _ _) (ci := 2) rfl inlX2 (j := 1) (by decide) rfl tw_38 (Or.inl rfl) dX2_addThing_48 ?_
      refine q_iload_n (pc := 51) C dX2_addThing_51 rfl 1 rfl ?_
      refine q_iconst (pc := 52) (v := (3 : Int32)) C dX2_addThing_52 (by decide) ?_
      refine q_imul (pc := 53) C dX2_addThing_53 ?_
      refine q_iload_n (pc := 54) C dX2_addThing_54 rfl 2 rfl ?_
      refine q_iadd (pc := 55) C dX2_addThing_55 ?_
      refine q_iconst (pc := 56) (v := (-1 : Int32)) C dX2_addThing_56 (by decide) ?_
      obtain ⟨b1, hm⟩ := oi_some hm
      refine q_iast (pc := 57) C (by decide) (fun _ => ce_3 _ _ _) (ty_3 _) b1 dX2_addThing_57 ?_
      refine q_iinc (pc := 58) (k := 2) (v := (v3 + (1 : Int32))) (lv' := [(3, .int (v3 + (1 : Int32))), (0, .ref (gad G 1)), (2, .int v2)]) C dX2_addThing_58 rfl rfl (by decide) rfl ?_
      refine q_goto (pc := 61) (tgt := 42) C dX2_addThing_61 (by decide) ?_
      refine q_lv (lv' := [(0, .ref (gad G 1)), (2, .int v2), (3, .int (v3 + (1 : Int32)))]) [1, 2, 0] rfl ?_
      exact ih _ _ _ _ hm kk
set_option maxRecDepth 100000 in
theorem c_Gr_addThing {G : Gx} (hi : qinj (gad G)) {S : St} {a1 : Int32} {zr : Int32} {zS : St} (hm : m_Gr_addThing S a1 = some (zr, zS)) : QMet G yX2_addThing cX2_addThing 4 (some .int) 0 0 [.ref (gad G 1), .int a1] S (some (.int zr)) zS := by
  refine q_entry (by decide +kernel) rfl hi (Nat.le_of_ble_eq_true rfl) ?_
  intro X C
  refine q_lv (lv' := [(0, .ref (gad G 1)), (1, .int a1)]) [0, 1] rfl ?_
  unfold m_Gr_addThing at hm
  refine q_aload_n (pc := 0) C dX2_addThing_0 rfl 0 rfl ?_
  refine q_get (pc := 1) (T := TX2) (v := .int (S 1 6)) C (by decide) (ce_1 _ _ _) (ci := 2) rfl inlX2 (j := 6) (by decide) rfl tw_118 (Or.inl rfl) dX2_addThing_1 ?_
  refine q_bipush (pc := 4) (v := (80 : Int32)) C dX2_addThing_4 (by decide) ?_
  refine q_icmp_lt (pc := 6) (tgt := 11) C dX2_addThing_6 (by decide) (fun c1 => ?_) (fun c1 => ?_)
  · replace hm := hm_t c1 hm
    refine q_aload_n (pc := 11) C dX2_addThing_11 rfl 0 rfl ?_
    refine q_get (pc := 12) (T := TX2) (v := .int (S 1 6)) C (by decide) (ce_1 _ _ _) (ci := 2) rfl inlX2 (j := 6) (by decide) rfl tw_118 (Or.inl rfl) dX2_addThing_12 ?_
    refine q_istore_n (pc := 15) (lv' := [(2, .int (S 1 6)), (0, .ref (gad G 1)), (1, .int a1)]) C dX2_addThing_15 rfl (by decide) rfl ?_
    refine q_aload_n (pc := 16) C dX2_addThing_16 rfl 1 rfl ?_
    refine q_dup (pc := 17) C dX2_addThing_17 rfl ?_
    refine q_get (pc := 18) (T := TX2) (v := .int (S 1 6)) C (by decide) (ce_1 _ _ _) (ci := 2) rfl inlX2 (j := 6) (by decide) rfl tw_118 (Or.inl rfl) dX2_addThing_18 ?_
    refine q_iconst (pc := 21) (v := (1 : Int32)) C dX2_addThing_21 (by decide) ?_
    refine q_iadd (pc := 22) C dX2_addThing_22 ?_
    refine q_put (pc := 23) (T := TX2) (ty := .int) C tyX2 tyX2_ok nmX2 (by decide) (ce_1 _ _ _) (pe_1_6 _ _ _ _) (ci := 2) rfl inlX2 (j := 6) (by decide) (Nat.le_of_ble_eq_true rfl) tw_118 (Or.inl rfl) rfl (by decide +kernel) rfl rfl dX2_addThing_23 ?_
    refine q_aload_n (pc := 26) C dX2_addThing_26 rfl 1 rfl ?_
    refine q_get (pc := 27) (T := TX2) (v := .ref (gad G 2)) C (by decide) (ce_1 _ _ _) (ci := 2) rfl inlX2 (j := 0) (by decide) rfl tw_37 (Or.inl rfl) dX2_addThing_27 ?_
    refine q_iload_n (pc := 30) C dX2_addThing_30 rfl 0 rfl ?_
    refine q_iload_n (pc := 31) C dX2_addThing_31 rfl 2 rfl ?_
    obtain ⟨b1, hm⟩ := oi_some hm
    refine q_iast (pc := 32) C (by decide) (fun _ => ce_2 _ _ _) (ty_2 _) b1 dX2_addThing_32 ?_
    refine q_aload_n (pc := 33) C dX2_addThing_33 rfl 1 rfl ?_
    refine q_get (pc := 34) (T := TX2) (v := .ref (gad G 5)) C (by decide) (ce_1 _ _ _) (ci := 2) rfl inlX2 (j := 3) (by decide) rfl tw_40 (Or.inl rfl) dX2_addThing_34 ?_
    refine q_iload_n (pc := 37) C dX2_addThing_37 rfl 0 rfl ?_
    refine q_iconst (pc := 38) (v := (-1 : Int32)) C dX2_addThing_38 (by decide) ?_
    obtain ⟨b2, hm⟩ := oi_some hm
    refine q_iast (pc := 39) C (by decide) (fun _ => ce_5 _ _ _) (ty_5 _) b2 dX2_addThing_39 ?_
    refine q_iconst (pc := 40) (v := (0 : Int32)) C dX2_addThing_40 (by decide) ?_
    refine q_istore_n (pc := 41) (lv' := [(3, .int (0 : Int32)), (2, .int (S 1 6)), (0, .ref (gad G 1)), (1, .int a1)]) C dX2_addThing_41 rfl (by decide) rfl ?_
    refine q_lv (lv' := [(0, .ref (gad G 1)), (2, .int (S 1 6)), (3, .int (0 : Int32))]) [2, 1, 0] rfl ?_
    obtain ⟨S1, h1, hm⟩ := o1_some hm
    refine w_Gr_addThing_L42 hi C 200 _ _ _ _ h1 ?_
    refine q_iload_n (pc := 64) C dX2_addThing_64 rfl 0 rfl ?_
    cases hm
    exact q_iret (pc := 65) C dX2_addThing_65
  · replace hm := hm_f c1 hm
    refine q_iconst (pc := 9) (v := (-1 : Int32)) C dX2_addThing_9 (by decide) ?_
    cases hm
    exact q_iret (pc := 10) C dX2_addThing_10
set_option maxRecDepth 100000 in
theorem c_Gr_rootAt {G : Gx} (hi : qinj (gad G)) {S : St} {a1 : Int32} {zr : Int32} (hm : m_Gr_rootAt S a1 = some zr) : QMet G yX2_rootAt cX2_rootAt 2 (some .int) 0 0 [.ref (gad G 1), .int a1] S (some (.int zr)) S := by
  refine q_entry (by decide +kernel) rfl hi (Nat.le_of_ble_eq_true rfl) ?_
  intro X C
  refine q_lv (lv' := [(0, .ref (gad G 1)), (1, .int a1)]) [0, 1] rfl ?_
  unfold m_Gr_rootAt at hm
  refine q_iload_n (pc := 0) C dX2_rootAt_0 rfl 1 rfl ?_
  refine q_if_lt (pc := 1) (tgt := 19) C dX2_rootAt_1 (by decide) (fun c1 => ?_) (fun c1 => ?_)
  · replace hm := hm_t c1 hm
    refine q_iconst (pc := 19) (v := (-1 : Int32)) C dX2_rootAt_19 (by decide) ?_
    cases hm
    exact q_iret (pc := 20) C dX2_rootAt_20
  · replace hm := hm_f c1 hm
    refine q_iload_n (pc := 4) C dX2_rootAt_4 rfl 1 rfl ?_
    refine q_bipush (pc := 5) (v := (6 : Int32)) C dX2_rootAt_5 (by decide) ?_
    refine q_icmp_ge (pc := 7) (tgt := 19) C dX2_rootAt_7 (by decide) (fun c2 => ?_) (fun c2 => ?_)
    · replace hm := hm_t c2 hm
      refine q_iconst (pc := 19) (v := (-1 : Int32)) C dX2_rootAt_19 (by decide) ?_
      cases hm
      exact q_iret (pc := 20) C dX2_rootAt_20
    · replace hm := hm_f c2 hm
      refine q_aload_n (pc := 10) C dX2_rootAt_10 rfl 0 rfl ?_
      refine q_get (pc := 11) (T := TX2) (v := .ref (gad G 4)) C (by decide) (ce_1 _ _ _) (ci := 2) rfl inlX2 (j := 2) (by decide) rfl tw_39 (Or.inl rfl) dX2_rootAt_11 ?_
      refine q_iload_n (pc := 14) C dX2_rootAt_14 rfl 1 rfl ?_
      obtain ⟨b1, hm⟩ := oi_some hm
      refine q_iald (pc := 15) C (by decide) (ce_4 _ _ _) (ty_4 _) b1 dX2_rootAt_15 ?_
      refine q_goto (pc := 16) (tgt := 20) C dX2_rootAt_16 (by decide) ?_
      cases hm
      exact q_iret (pc := 20) C dX2_rootAt_20
set_option maxRecDepth 100000 in
theorem c_Row_add_6 {G : Gx} (hi : qinj (gad G)) {S : St} {a1 : Int32} {zS : St} (hm : m_Row_add 6 S a1 = some zS) : QMet G yX5_add cX5_add 2 none 0 0 [.ref (gad G 6), .int a1] S none zS := by
  refine q_entry (by decide +kernel) rfl hi (Nat.le_of_ble_eq_true rfl) ?_
  intro X C
  refine q_lv (lv' := [(0, .ref (gad G 6)), (1, .int a1)]) [0, 1] rfl ?_
  unfold m_Row_add at hm
  refine q_iload_n (pc := 0) C dX5_add_0 rfl 1 rfl ?_
  refine q_if_lt (pc := 1) (tgt := 28) C dX5_add_1 (by decide) (fun c1 => ?_) (fun c1 => ?_)
  · replace hm := hm_t c1 hm
    cases hm
    exact q_vret (pc := 28) C dX5_add_28
  · replace hm := hm_f c1 hm
    refine q_iload_n (pc := 4) C dX5_add_4 rfl 1 rfl ?_
    refine q_bipush (pc := 5) (v := (80 : Int32)) C dX5_add_5 (by decide) ?_
    refine q_icmp_ge (pc := 7) (tgt := 28) C dX5_add_7 (by decide) (fun c2 => ?_) (fun c2 => ?_)
    · replace hm := hm_t c2 hm
      cases hm
      exact q_vret (pc := 28) C dX5_add_28
    · replace hm := hm_f c2 hm
      refine q_aload_n (pc := 10) C dX5_add_10 rfl 0 rfl ?_
      refine q_get (pc := 11) (T := TX5) (v := .ref (gad G 8)) C (by decide) (ce_6 _ _ _) (ci := 5) rfl inlX5 (j := 1) (by decide) rfl tw_50 (Or.inl rfl) dX5_add_11 ?_
      refine q_iload_n (pc := 14) C dX5_add_14 rfl 1 rfl ?_
      obtain ⟨b1, hm⟩ := oi_some hm
      refine q_zald (pc := 15) C (by decide) (ce_8 _ _ _) (ty_8 _) b1 dX5_add_15 ?_
      refine q_if_ne (pc := 16) (tgt := 28) C dX5_add_16 (by decide) (fun c3 => ?_) (fun c3 => ?_)
      · replace hm := hm_f c3 hm
        cases hm
        exact q_vret (pc := 28) C dX5_add_28
      · replace hm := hm_t c3 hm
        refine q_aload_n (pc := 19) C dX5_add_19 rfl 0 rfl ?_
        refine q_get (pc := 20) (T := TX5) (v := .int (S 6 2)) C (by decide) (ce_6 _ _ _) (ci := 5) rfl inlX5 (j := 2) (by decide) rfl tw_127 (Or.inl rfl) dX5_add_20 ?_
        refine q_bipush (pc := 23) (v := (80 : Int32)) C dX5_add_23 (by decide) ?_
        refine q_icmp_lt (pc := 25) (tgt := 29) C dX5_add_25 (by decide) (fun c4 => ?_) (fun c4 => ?_)
        · replace hm := hm_t c4 hm
          refine q_aload_n (pc := 29) C dX5_add_29 rfl 0 rfl ?_
          refine q_get (pc := 30) (T := TX5) (v := .ref (gad G 8)) C (by decide) (ce_6 _ _ _) (ci := 5) rfl inlX5 (j := 1) (by decide) rfl tw_50 (Or.inl rfl) dX5_add_30 ?_
          refine q_iload_n (pc := 33) C dX5_add_33 rfl 1 rfl ?_
          refine q_iconst (pc := 34) (v := (1 : Int32)) C dX5_add_34 (by decide) ?_
          obtain ⟨b2, hm⟩ := oi_some hm
          refine q_zast1 (pc := 35) C (by decide) (fun _ => ce_8 _ _ _) (ty_8 _) b2 dX5_add_35 ?_
          refine q_aload_n (pc := 36) C dX5_add_36 rfl 0 rfl ?_
          refine q_get (pc := 37) (T := TX5) (v := .ref (gad G 7)) C (by decide) (ce_6 _ _ _) (ci := 5) rfl inlX5 (j := 0) (by decide) rfl tw_49 (Or.inl rfl) dX5_add_37 ?_
          refine q_aload_n (pc := 40) C dX5_add_40 rfl 0 rfl ?_
          refine q_get (pc := 41) (T := TX5) (v := .int (S 6 2)) C (by decide) (ce_6 _ _ _) (ci := 5) rfl inlX5 (j := 2) (by decide) rfl tw_127 (Or.inl rfl) dX5_add_41 ?_
          refine q_iload_n (pc := 44) C dX5_add_44 rfl 1 rfl ?_
          obtain ⟨b3, hm⟩ := oi_some hm
          refine q_iast (pc := 45) C (by decide) (fun _ => ce_7 _ _ _) (ty_7 _) b3 dX5_add_45 ?_
          refine q_aload_n (pc := 46) C dX5_add_46 rfl 0 rfl ?_
          refine q_dup (pc := 47) C dX5_add_47 rfl ?_
          refine q_get (pc := 48) (T := TX5) (v := .int (S 6 2)) C (by decide) (ce_6 _ _ _) (ci := 5) rfl inlX5 (j := 2) (by decide) rfl tw_127 (Or.inl rfl) dX5_add_48 ?_
          refine q_iconst (pc := 51) (v := (1 : Int32)) C dX5_add_51 (by decide) ?_
          refine q_iadd (pc := 52) C dX5_add_52 ?_
          refine q_put (pc := 53) (T := TX5) (ty := .int) C tyX5 tyX5_ok nmX5 (by decide) (ce_6 _ _ _) (pe_6_2 _ _ _ _) (ci := 5) rfl inlX5 (j := 2) (by decide) (Nat.le_of_ble_eq_true rfl) tw_127 (Or.inl rfl) rfl (by decide +kernel) rfl rfl dX5_add_53 ?_
          cases hm
          exact q_vret (pc := 56) C dX5_add_56
        · replace hm := hm_f c4 hm
          cases hm
          exact q_vret (pc := 28) C dX5_add_28
set_option maxRecDepth 100000 in
theorem c_Row_get_6 {G : Gx} (hi : qinj (gad G)) {S : St} {a1 : Int32} {zr : Int32} (hm : m_Row_get 6 S a1 = some zr) : QMet G yX5_get cX5_get 2 (some .int) 0 0 [.ref (gad G 6), .int a1] S (some (.int zr)) S := by
  refine q_entry (by decide +kernel) rfl hi (Nat.le_of_ble_eq_true rfl) ?_
  intro X C
  refine q_lv (lv' := [(0, .ref (gad G 6)), (1, .int a1)]) [0, 1] rfl ?_
  unfold m_Row_get at hm
  refine q_iload_n (pc := 0) C dX5_get_0 rfl 1 rfl ?_
  refine q_if_lt (pc := 1) (tgt := 21) C dX5_get_1 (by decide) (fun c1 => ?_) (fun c1 => ?_)
  · replace hm := hm_t c1 hm
    refine q_iconst (pc := 21) (v := (-1 : Int32)) C dX5_get_21 (by decide) ?_
    cases hm
    exact q_iret (pc := 22) C dX5_get_22
  · replace hm := hm_f c1 hm
    refine q_iload_n (pc := 4) C dX5_get_4 rfl 1 rfl ?_
    refine q_aload_n (pc := 5) C dX5_get_5 rfl 0 rfl ?_
    refine q_get (pc := 6) (T := TX5) (v := .int (S 6 2)) C (by decide) (ce_6 _ _ _) (ci := 5) rfl inlX5 (j := 2) (by decide) rfl tw_127 (Or.inl rfl) dX5_get_6 ?_
    refine q_icmp_ge (pc := 9) (tgt := 21) C dX5_get_9 (by decide) (fun c2 => ?_) (fun c2 => ?_)
    · replace hm := hm_t c2 hm
      refine q_iconst (pc := 21) (v := (-1 : Int32)) C dX5_get_21 (by decide) ?_
      cases hm
      exact q_iret (pc := 22) C dX5_get_22
    · replace hm := hm_f c2 hm
      refine q_aload_n (pc := 12) C dX5_get_12 rfl 0 rfl ?_
      refine q_get (pc := 13) (T := TX5) (v := .ref (gad G 7)) C (by decide) (ce_6 _ _ _) (ci := 5) rfl inlX5 (j := 0) (by decide) rfl tw_49 (Or.inl rfl) dX5_get_13 ?_
      refine q_iload_n (pc := 16) C dX5_get_16 rfl 1 rfl ?_
      obtain ⟨b1, hm⟩ := oi_some hm
      refine q_iald (pc := 17) C (by decide) (ce_7 _ _ _) (ty_7 _) b1 dX5_get_17 ?_
      refine q_goto (pc := 18) (tgt := 22) C dX5_get_18 (by decide) ?_
      cases hm
      exact q_iret (pc := 22) C dX5_get_22
set_option maxRecDepth 100000 in
theorem c_Gr_fieldsOf {G : Gx} (hi : qinj (gad G)) {S : St} {a1 : Int32} {zr : Int32} (hm : m_Gr_fieldsOf S a1 = some zr) : QMet G yX2_fieldsOf cX2_fieldsOf 2 (some .int) 0 0 [.ref (gad G 1), .int a1] S (some (.int zr)) S := by
  refine q_entry (by decide +kernel) rfl hi (Nat.le_of_ble_eq_true rfl) ?_
  intro X C
  refine q_lv (lv' := [(0, .ref (gad G 1)), (1, .int a1)]) [0, 1] rfl ?_
  unfold m_Gr_fieldsOf at hm
  refine q_iload_n (pc := 0) C dX2_fieldsOf_0 rfl 1 rfl ?_
  refine q_if_lt (pc := 1) (tgt := 21) C dX2_fieldsOf_1 (by decide) (fun c1 => ?_) (fun c1 => ?_)
  · replace hm := hm_t c1 hm
    refine q_iconst (pc := 21) (v := (0 : Int32)) C dX2_fieldsOf_21 (by decide) ?_
    cases hm
    exact q_iret (pc := 22) C dX2_fieldsOf_22
  · replace hm := hm_f c1 hm
    refine q_iload_n (pc := 4) C dX2_fieldsOf_4 rfl 1 rfl ?_
    refine q_aload_n (pc := 5) C dX2_fieldsOf_5 rfl 0 rfl ?_
    refine q_get (pc := 6) (T := TX2) (v := .int (S 1 6)) C (by decide) (ce_1 _ _ _) (ci := 2) rfl inlX2 (j := 6) (by decide) rfl tw_118 (Or.inl rfl) dX2_fieldsOf_6 ?_
    refine q_icmp_ge (pc := 9) (tgt := 21) C dX2_fieldsOf_9 (by decide) (fun c2 => ?_) (fun c2 => ?_)
    · replace hm := hm_t c2 hm
      refine q_iconst (pc := 21) (v := (0 : Int32)) C dX2_fieldsOf_21 (by decide) ?_
      cases hm
      exact q_iret (pc := 22) C dX2_fieldsOf_22
    · replace hm := hm_f c2 hm
      refine q_aload_n (pc := 12) C dX2_fieldsOf_12 rfl 0 rfl ?_
      refine q_get (pc := 13) (T := TX2) (v := .ref (gad G 2)) C (by decide) (ce_1 _ _ _) (ci := 2) rfl inlX2 (j := 0) (by decide) rfl tw_37 (Or.inl rfl) dX2_fieldsOf_13 ?_
      refine q_iload_n (pc := 16) C dX2_fieldsOf_16 rfl 1 rfl ?_
      obtain ⟨b1, hm⟩ := oi_some hm
      refine q_iald (pc := 17) C (by decide) (ce_2 _ _ _) (ty_2 _) b1 dX2_fieldsOf_17 ?_
      refine q_goto (pc := 18) (tgt := 22) C dX2_fieldsOf_18 (by decide) ?_
      cases hm
      exact q_iret (pc := 22) C dX2_fieldsOf_22
set_option maxRecDepth 100000 in
theorem c_Gr_nameOf {G : Gx} (hi : qinj (gad G)) {S : St} {a1 : Int32} {a2 : Int32} {zr : Int32} (hm : m_Gr_nameOf S a1 a2 = some zr) : QMet G yX2_nameOf cX2_nameOf 3 (some .int) 0 0 [.ref (gad G 1), .int a1, .int a2] S (some (.int zr)) S := by
  refine q_entry (by decide +kernel) rfl hi (Nat.le_of_ble_eq_true rfl) ?_
  intro X C
  refine q_lv (lv' := [(0, .ref (gad G 1)), (1, .int a1), (2, .int a2)]) [0, 1, 2] rfl ?_
  unfold m_Gr_nameOf at hm
  refine q_iload_n (pc := 0) C dX2_nameOf_0 rfl 1 rfl ?_
  refine q_if_lt (pc := 1) (tgt := 26) C dX2_nameOf_1 (by decide) (fun c1 => ?_) (fun c1 => ?_)
  · replace hm := hm_t c1 hm
    refine q_iconst (pc := 26) (v := (-1 : Int32)) C dX2_nameOf_26 (by decide) ?_
    cases hm
    exact q_iret (pc := 27) C dX2_nameOf_27
  · replace hm := hm_f c1 hm
    refine q_iload_n (pc := 4) C dX2_nameOf_4 rfl 1 rfl ?_
    refine q_aload_n (pc := 5) C dX2_nameOf_5 rfl 0 rfl ?_
    refine q_get (pc := 6) (T := TX2) (v := .int (S 1 6)) C (by decide) (ce_1 _ _ _) (ci := 2) rfl inlX2 (j := 6) (by decide) rfl tw_118 (Or.inl rfl) dX2_nameOf_6 ?_
    refine q_icmp_ge (pc := 9) (tgt := 26) C dX2_nameOf_9 (by decide) (fun c2 => ?_) (fun c2 => ?_)
    · replace hm := hm_t c2 hm
      refine q_iconst (pc := 26) (v := (-1 : Int32)) C dX2_nameOf_26 (by decide) ?_
      cases hm
      exact q_iret (pc := 27) C dX2_nameOf_27
    · replace hm := hm_f c2 hm
      refine q_iload_n (pc := 12) C dX2_nameOf_12 rfl 2 rfl ?_
      refine q_if_lt (pc := 13) (tgt := 26) C dX2_nameOf_13 (by decide) (fun c3 => ?_) (fun c3 => ?_)
      · replace hm := hm_t c3 hm
        refine q_iconst (pc := 26) (v := (-1 : Int32)) C dX2_nameOf_26 (by decide) ?_
        cases hm
        exact q_iret (pc := 27) C dX2_nameOf_27
      · replace hm := hm_f c3 hm
        refine q_iload_n (pc := 16) C dX2_nameOf_16 rfl 2 rfl ?_
        refine q_aload_n (pc := 17) C dX2_nameOf_17 rfl 0 rfl ?_
        refine q_get (pc := 18) (T := TX2) (v := .ref (gad G 2)) C (by decide) (ce_1 _ _ _) (ci := 2) rfl inlX2 (j := 0) (by decide) rfl tw_37 (Or.inl rfl) dX2_nameOf_18 ?_
        refine q_iload_n (pc := 21) C dX2_nameOf_21 rfl 1 rfl ?_
        obtain ⟨b1, hm⟩ := oi_some hm
        refine q_iald (pc := 22) C (by decide) (ce_2 _ _ _) (ty_2 _) b1 dX2_nameOf_22 ?_
        refine q_icmp_lt (pc := 23) (tgt := 28) C dX2_nameOf_23 (by decide) (fun c4 => ?_) (fun c4 => ?_)
        · replace hm := hm_t c4 hm
          refine q_aload_n (pc := 28) C dX2_nameOf_28 rfl 0 rfl ?_
          refine q_get (pc := 29) (T := TX2) (v := .ref (gad G 3)) C (by decide) (ce_1 _ _ _) (ci := 2) rfl inlX2 (j := 1) (by decide) rfl tw_38 (Or.inl rfl) dX2_nameOf_29 ?_
          refine q_iload_n (pc := 32) C dX2_nameOf_32 rfl 1 rfl ?_
          refine q_iconst (pc := 33) (v := (3 : Int32)) C dX2_nameOf_33 (by decide) ?_
          refine q_imul (pc := 34) C dX2_nameOf_34 ?_
          refine q_iload_n (pc := 35) C dX2_nameOf_35 rfl 2 rfl ?_
          refine q_iadd (pc := 36) C dX2_nameOf_36 ?_
          obtain ⟨b2, hm⟩ := oi_some hm
          refine q_iald (pc := 37) C (by decide) (ce_3 _ _ _) (ty_3 _) b2 dX2_nameOf_37 ?_
          cases hm
          exact q_iret (pc := 38) C dX2_nameOf_38
        · replace hm := hm_f c4 hm
          refine q_iconst (pc := 26) (v := (-1 : Int32)) C dX2_nameOf_26 (by decide) ?_
          cases hm
          exact q_iret (pc := 27) C dX2_nameOf_27
set_option maxRecDepth 100000 in
theorem w_Gr_addNamedBy_6_L2 {G : Gx} (hi : qinj (gad G)) {X : Cx} (C : QC G X cX2_addNamedBy 4 RX2 1 22 none) {Q : State → Prop} : ∀ (n : Nat) (S : St) (v1 : Int32) (v3 : Int32) (zS : St), m_Gr_addNamedBy_L2 6 n S v1 v3 = some zS → QW G X 4 Q 27 [] [] zS → QW G X 4 Q 2 [(0, .ref (gad G 1)), (1, .int v1), (2, .ref (gad G 6)), (3, .int v3)] [] S := by
  intro n
  induction n with
  | zero =>
    intro S v1 v3 zS hm kk
    rw [m_Gr_addNamedBy_L2] at hm
    cases hm
  | succ n ih =>
    intro S v1 v3 zS hm kk
    rw [m_Gr_addNamedBy_L2] at hm
    refine q_iload_n (pc := 2) C dX2_addNamedBy_2 rfl 3 rfl ?_
    refine q_aload_n (pc := 3) C dX2_addNamedBy_3 rfl 0 rfl ?_
    refine q_iload_n (pc := 4) C dX2_addNamedBy_4 rfl 1 rfl ?_
    obtain ⟨r1, h1, hm⟩ := o1_some hm
    refine q_callV (pc := 5) (k := 1) (As := [.int v1]) (rest := [.int v3]) (T := TX2) C (c_Gr_fieldsOf hi h1) (by decide) (ce_1 _ _ _) (ci := 2) rfl tw_278 tw_279 tw_280 tw_13 tw_281 (nA := 1) (by decide +kernel) rfl (by decide) (Nat.le_of_ble_eq_true rfl) rfl dX2_addNamedBy_5 ?_
    refine q_icmp_ge (pc := 8) (tgt := 27) C dX2_addNamedBy_8 (by decide) (fun c1 => ?_) (fun c1 => ?_)
    · replace hm := hm_t c1 hm
      cases hm
      refine q_lv (lv' := []) [] rfl ?_
      exact kk
    · replace hm := hm_f c1 hm
      refine q_aload_n (pc := 11) C dX2_addNamedBy_11 rfl 2 rfl ?_
      refine q_aload_n (pc := 12) C dX2_addNamedBy_12 rfl 0 rfl ?_
      refine q_iload_n (pc := 13) C dX2_addNamedBy_13 rfl 1 rfl ?_
      refine q_iload_n (pc := 14) C dX2_addNamedBy_14 rfl 3 rfl ?_
      obtain ⟨r2, h2, hm⟩ := o1_some hm
      refine q_callV (pc := 15) (k := 1) (As := [.int v1, .int v3]) (rest := [.ref (gad G 6)]) (T := TX2) C (c_Gr_nameOf hi h2) (by decide) (ce_1 _ _ _) (ci := 2) rfl tw_282 tw_283 tw_284 tw_13 tw_285 (nA := 2) (by decide +kernel) rfl (by decide) (Nat.le_of_ble_eq_true rfl) rfl dX2_addNamedBy_15 ?_
      obtain ⟨S1, h3, hm⟩ := o1_some hm
      refine q_callV (pc := 18) (k := 6) (As := [.int r2]) (rest := []) (T := TX5) C (c_Row_add_6 hi h3) (by decide) (ce_6 _ _ _) (ci := 5) rfl tw_266 tw_267 tw_268 tw_43 tw_269 (nA := 1) (by decide +kernel) rfl (by decide) (Nat.le_of_ble_eq_true rfl) rfl dX2_addNamedBy_18 ?_
      refine q_iinc (pc := 21) (k := 3) (v := (v3 + (1 : Int32))) (lv' := [(3, .int (v3 + (1 : Int32))), (0, .ref (gad G 1)), (1, .int v1), (2, .ref (gad G 6))]) C dX2_addNamedBy_21 rfl rfl (by decide) rfl ?_
      refine q_goto (pc := 24) (tgt := 2) C dX2_addNamedBy_24 (by decide) ?_
      refine q_lv (lv' := [(0, .ref (gad G 1)), (1, .int v1), (2, .ref (gad G 6)), (3, .int (v3 + (1 : Int32)))]) [1, 2, 3, 0] rfl ?_
      exact ih _ _ _ _ hm kk
set_option maxRecDepth 100000 in
theorem c_Gr_addNamedBy_6 {G : Gx} (hi : qinj (gad G)) {S : St} {a1 : Int32} {zS : St} (hm : m_Gr_addNamedBy 6 S a1 = some zS) : QMet G yX2_addNamedBy cX2_addNamedBy 4 none 1 22 [.ref (gad G 1), .int a1, .ref (gad G 6)] S none zS := by
  refine q_entry (by decide +kernel) rfl hi (Nat.le_of_ble_eq_true rfl) ?_
  intro X C
  refine q_lv (lv' := [(0, .ref (gad G 1)), (1, .int a1), (2, .ref (gad G 6))]) [0, 1, 2] rfl ?_
  unfold m_Gr_addNamedBy at hm
  refine q_iconst (pc := 0) (v := (0 : Int32)) C dX2_addNamedBy_0 (by decide) ?_
  refine q_istore_n (pc := 1) (lv' := [(3, .int (0 : Int32)), (0, .ref (gad G 1)), (1, .int a1), (2, .ref (gad G 6))]) C dX2_addNamedBy_1 rfl (by decide) rfl ?_
  refine q_lv (lv' := [(0, .ref (gad G 1)), (1, .int a1), (2, .ref (gad G 6)), (3, .int (0 : Int32))]) [1, 2, 3, 0] rfl ?_
  obtain ⟨S1, h1, hm⟩ := o1_some hm
  refine w_Gr_addNamedBy_6_L2 hi C 200 _ _ _ _ h1 ?_
  cases hm
  exact q_vret (pc := 27) C dX2_addNamedBy_27
set_option maxRecDepth 100000 in
theorem w_Gr_trace_6_L6 {G : Gx} (hi : qinj (gad G)) {X : Cx} (C : QC G X cX2_trace 4 RX2 2 45 none) {Q : State → Prop} : ∀ (n : Nat) (S : St) (v2 : Int32) (v3 : Int32) (zS : St), m_Gr_trace_L6 6 n S v2 v3 = some zS → QW G X 4 Q 33 [(0, .ref (gad G 1)), (1, .ref (gad G 6))] [] zS → QW G X 4 Q 6 [(0, .ref (gad G 1)), (1, .ref (gad G 6)), (2, .int v2), (3, .int v3)] [] S := by
  intro n
  induction n with
  | zero =>
    intro S v2 v3 zS hm kk
    rw [m_Gr_trace_L6] at hm
    cases hm
  | succ n ih =>
    intro S v2 v3 zS hm kk
    rw [m_Gr_trace_L6] at hm
    refine q_iload_n (pc := 6) C dX2_trace_6 rfl 3 rfl ?_
    refine q_bipush (pc := 7) (v := (6 : Int32)) C dX2_trace_7 (by decide) ?_
    refine q_icmp_ge (pc := 9) (tgt := 33) C dX2_trace_9 (by decide) (fun c1 => ?_) (fun c1 => ?_)
    · replace hm := hm_t c1 hm
      cases hm
      refine q_lv (lv' := [(0, .ref (gad G 1)), (1, .ref (gad G 6))]) [0, 1] rfl ?_
      exact kk
    · replace hm := hm_f c1 hm
      refine q_iload_n (pc := 12) C dX2_trace_12 rfl 3 rfl ?_
      refine q_iload_n (pc := 13) C dX2_trace_13 rfl 2 rfl ?_
      refine q_icmp_eq (pc := 14) (tgt := 27) C dX2_trace_14 (by decide) (fun c2 => ?_) (fun c2 => ?_)
      · replace hm := hm_t c2 hm
        refine q_iinc (pc := 27) (k := 3) (v := (v3 + (1 : Int32))) (lv' := [(3, .int (v3 + (1 : Int32))), (0, .ref (gad G 1)), (1, .ref (gad G 6)), (2, .int v2)]) C dX2_trace_27 rfl rfl (by decide) rfl ?_
        refine q_goto (pc := 30) (tgt := 6) C dX2_trace_30 (by decide) ?_
        refine q_lv (lv' := [(0, .ref (gad G 1)), (1, .ref (gad G 6)), (2, .int v2), (3, .int (v3 + (1 : Int32)))]) [1, 2, 3, 0] rfl ?_
        exact ih _ _ _ _ hm kk
      · replace hm := hm_f c2 hm
        refine q_aload_n (pc := 17) C dX2_trace_17 rfl 1 rfl ?_
        refine q_aload_n (pc := 18) C dX2_trace_18 rfl 0 rfl ?_
        refine q_get (pc := 19) (T := TX2) (v := .ref (gad G 4)) C (by decide) (ce_1 _ _ _) (ci := 2) rfl inlX2 (j := 2) (by decide) rfl tw_39 (Or.inl rfl) dX2_trace_19 ?_
        refine q_iload_n (pc := 22) C dX2_trace_22 rfl 3 rfl ?_
        obtain ⟨b1, hm⟩ := oi_some hm
        refine q_iald (pc := 23) C (by decide) (ce_4 _ _ _) (ty_4 _) b1 dX2_trace_23 ?_
        obtain ⟨S1, h1, hm⟩ := o1_some hm
        refine q_callV (pc := 24) (k := 6) (As := [.int (S 4 v3.toNatClampNeg)]) (rest := []) (T := TX5) C (c_Row_add_6 hi h1) (by decide) (ce_6 _ _ _) (ci := 5) rfl tw_266 tw_267 tw_268 tw_43 tw_269 (nA := 1) (by decide +kernel) rfl (by decide) (Nat.le_of_ble_eq_true rfl) rfl dX2_trace_24 ?_
        refine q_iinc (pc := 27) (k := 3) (v := (v3 + (1 : Int32))) (lv' := [(3, .int (v3 + (1 : Int32))), (0, .ref (gad G 1)), (1, .ref (gad G 6)), (2, .int v2)]) C dX2_trace_27 rfl rfl (by decide) rfl ?_
        refine q_goto (pc := 30) (tgt := 6) C dX2_trace_30 (by decide) ?_
        refine q_lv (lv' := [(0, .ref (gad G 1)), (1, .ref (gad G 6)), (2, .int v2), (3, .int (v3 + (1 : Int32)))]) [1, 2, 3, 0] rfl ?_
        exact ih _ _ _ _ hm kk
set_option maxRecDepth 100000 in
theorem w_Gr_trace_6_L35 {G : Gx} (hi : qinj (gad G)) {X : Cx} (C : QC G X cX2_trace 4 RX2 2 45 none) {Q : State → Prop} : ∀ (n : Nat) (S : St) (v3 : Int32) (zS : St), m_Gr_trace_L35 6 n S v3 = some zS → QW G X 4 Q 65 [] [] zS → QW G X 4 Q 35 [(0, .ref (gad G 1)), (1, .ref (gad G 6)), (3, .int v3)] [] S := by
  intro n
  induction n with
  | zero =>
    intro S v3 zS hm kk
    rw [m_Gr_trace_L35] at hm
    cases hm
  | succ n ih =>
    intro S v3 zS hm kk
    rw [m_Gr_trace_L35] at hm
    refine q_iload_n (pc := 35) C dX2_trace_35 rfl 2 rfl ?_
    refine q_aload_n (pc := 36) C dX2_trace_36 rfl 1 rfl ?_
    refine q_get (pc := 37) (T := TX5) (v := .int (S 6 2)) C (by decide) (ce_6 _ _ _) (ci := 5) rfl inlX5 (j := 2) (by decide) rfl tw_265 (Or.inl rfl) dX2_trace_37 ?_
    refine q_icmp_ge (pc := 40) (tgt := 65) C dX2_trace_40 (by decide) (fun c1 => ?_) (fun c1 => ?_)
    · replace hm := hm_t c1 hm
      cases hm
      refine q_lv (lv' := []) [] rfl ?_
      exact kk
    · replace hm := hm_f c1 hm
      refine q_iload_n (pc := 43) C dX2_trace_43 rfl 2 rfl ?_
      refine q_bipush (pc := 44) (v := (80 : Int32)) C dX2_trace_44 (by decide) ?_
      refine q_icmp_ge (pc := 46) (tgt := 65) C dX2_trace_46 (by decide) (fun c2 => ?_) (fun c2 => ?_)
      · replace hm := hm_t c2 hm
        cases hm
        refine q_lv (lv' := []) [] rfl ?_
        exact kk
      · replace hm := hm_f c2 hm
        refine q_aload_n (pc := 49) C dX2_trace_49 rfl 0 rfl ?_
        refine q_aload_n (pc := 50) C dX2_trace_50 rfl 1 rfl ?_
        refine q_iload_n (pc := 51) C dX2_trace_51 rfl 2 rfl ?_
        obtain ⟨r1, h1, hm⟩ := o1_some hm
        refine q_callV (pc := 52) (k := 6) (As := [.int v3]) (rest := [.ref (gad G 1)]) (T := TX5) C (c_Row_get_6 hi h1) (by decide) (ce_6 _ _ _) (ci := 5) rfl tw_270 tw_271 tw_272 tw_43 tw_273 (nA := 1) (by decide +kernel) rfl (by decide) (Nat.le_of_ble_eq_true rfl) rfl dX2_trace_52 ?_
        refine q_aload_n (pc := 55) C dX2_trace_55 rfl 1 rfl ?_
        obtain ⟨S1, h2, hm⟩ := o1_some hm
        refine q_callV (pc := 56) (k := 1) (As := [.int r1, .ref (gad G 6)]) (rest := []) (T := TX2) C (c_Gr_addNamedBy_6 hi h2) (by decide) (ce_1 _ _ _) (ci := 2) rfl tw_274 tw_275 tw_276 tw_13 tw_277 (nA := 2) (by decide +kernel) rfl (by decide) (Nat.le_of_ble_eq_true rfl) rfl dX2_trace_56 ?_
        refine q_iinc (pc := 59) (k := 2) (v := (v3 + (1 : Int32))) (lv' := [(3, .int (v3 + (1 : Int32))), (0, .ref (gad G 1)), (1, .ref (gad G 6))]) C dX2_trace_59 rfl rfl (by decide) rfl ?_
        refine q_goto (pc := 62) (tgt := 35) C dX2_trace_62 (by decide) ?_
        refine q_lv (lv' := [(0, .ref (gad G 1)), (1, .ref (gad G 6)), (3, .int (v3 + (1 : Int32)))]) [1, 2, 0] rfl ?_
        exact ih _ _ _ hm kk
set_option maxRecDepth 100000 in
theorem c_Gr_trace_6 {G : Gx} (hi : qinj (gad G)) {S : St} {a2 : Int32} {zS : St} (hm : m_Gr_trace 6 S a2 = some zS) : QMet G yX2_trace cX2_trace 4 none 2 45 [.ref (gad G 1), .ref (gad G 6), .int a2] S none zS := by
  refine q_entry (by decide +kernel) rfl hi (Nat.le_of_ble_eq_true rfl) ?_
  intro X C
  refine q_lv (lv' := [(0, .ref (gad G 1)), (1, .ref (gad G 6)), (2, .int a2)]) [0, 1, 2] rfl ?_
  unfold m_Gr_trace at hm
  refine q_aload_n (pc := 0) C dX2_trace_0 rfl 1 rfl ?_
  obtain ⟨S1, h1, hm⟩ := o1_some hm
  refine q_callV (pc := 1) (k := 6) (As := []) (rest := []) (T := TX5) C (c_Row_empty_6 hi h1) (by decide) (ce_6 _ _ _) (ci := 5) rfl tw_123 tw_124 tw_125 tw_43 tw_126 (nA := 0) (by decide +kernel) rfl (by decide) (Nat.le_of_ble_eq_true rfl) rfl dX2_trace_1 ?_
  refine q_iconst (pc := 4) (v := (0 : Int32)) C dX2_trace_4 (by decide) ?_
  refine q_istore_n (pc := 5) (lv' := [(3, .int (0 : Int32)), (0, .ref (gad G 1)), (1, .ref (gad G 6)), (2, .int a2)]) C dX2_trace_5 rfl (by decide) rfl ?_
  refine q_lv (lv' := [(0, .ref (gad G 1)), (1, .ref (gad G 6)), (2, .int a2), (3, .int (0 : Int32))]) [1, 2, 3, 0] rfl ?_
  obtain ⟨S2, h2, hm⟩ := o1_some hm
  refine w_Gr_trace_6_L6 hi C 200 _ _ _ _ h2 ?_
  refine q_iconst (pc := 33) (v := (0 : Int32)) C dX2_trace_33 (by decide) ?_
  refine q_istore_n (pc := 34) (lv' := [(3, .int (0 : Int32)), (0, .ref (gad G 1)), (1, .ref (gad G 6))]) C dX2_trace_34 rfl (by decide) rfl ?_
  refine q_lv (lv' := [(0, .ref (gad G 1)), (1, .ref (gad G 6)), (3, .int (0 : Int32))]) [1, 2, 0] rfl ?_
  obtain ⟨S3, h3, hm⟩ := o1_some hm
  refine w_Gr_trace_6_L35 hi C 200 _ _ _ h3 ?_
  cases hm
  exact q_vret (pc := 65) C dX2_trace_65
set_option maxRecDepth 100000 in
theorem w_Arr_fill_80_5_L5 {G : Gx} (hi : qinj (gad G)) {X : Cx} (C : QC G X cJ7_fill_53178 4 RJ7 0 0 none) {Q : State → Prop} : ∀ (n : Nat) (S : St) (v1 : Int32) (v2 : Int32) (v3 : Int32) (zS : St), m_Arr_fill_80_L5 5 n S v1 v2 v3 = some zS → QW G X 4 Q 20 [] [] zS → QW G X 4 Q 5 [(0, .ref (gad G 5)), (1, .int v1), (2, .int v2), (3, .int v3)] [] S := by
  intro n
  induction n with
  | zero =>
    intro S v1 v2 v3 zS hm kk
    rw [m_Arr_fill_80_L5] at hm
    cases hm
  | succ n ih =>
    intro S v1 v2 v3 zS hm kk
    rw [m_Arr_fill_80_L5] at hm
    refine q_iload_n (pc := 5) C dJ7_fill_53178_5 rfl 2 rfl ?_
    refine q_iload_n (pc := 6) C dJ7_fill_53178_6 rfl 3 rfl ?_
    refine q_icmp_ge (pc := 7) (tgt := 20) C dJ7_fill_53178_7 (by decide) (fun c1 => ?_) (fun c1 => ?_)
    · replace hm := hm_t c1 hm
      cases hm
      refine q_lv (lv' := []) [] rfl ?_
      exact kk
    · replace hm := hm_f c1 hm
      refine q_aload_n (pc := 10) C dJ7_fill_53178_10 rfl 0 rfl ?_
      refine q_iload_n (pc := 11) C dJ7_fill_53178_11 rfl 2 rfl ?_
      refine q_iload_n (pc := 12) C dJ7_fill_53178_12 rfl 1 rfl ?_
      obtain ⟨b1, hm⟩ := oi_some hm
      refine q_iast (pc := 13) C (by decide) (fun _ => ce_5 _ _ _) (ty_5 _) b1 dJ7_fill_53178_13 ?_
      refine q_iinc (pc := 14) (k := 2) (v := (v2 + (1 : Int32))) (lv' := [(2, .int (v2 + (1 : Int32))), (0, .ref (gad G 5)), (1, .int v1), (3, .int v3)]) C dJ7_fill_53178_14 rfl rfl (by decide) rfl ?_
      refine q_goto (pc := 17) (tgt := 5) C dJ7_fill_53178_17 (by decide) ?_
      refine q_lv (lv' := [(0, .ref (gad G 5)), (1, .int v1), (2, .int (v2 + (1 : Int32))), (3, .int v3)]) [1, 2, 0, 3] rfl ?_
      exact ih _ _ _ _ _ hm kk
set_option maxRecDepth 100000 in
theorem c_Arr_fill_80_5 {G : Gx} (hi : qinj (gad G)) {S : St} {a1 : Int32} {zS : St} (hm : m_Arr_fill_80 5 S a1 = some zS) : QMet G yJ7_fill_53178 cJ7_fill_53178 4 none 0 0 [.ref (gad G 5), .int a1] S none zS := by
  refine q_entry (by decide +kernel) rfl hi (Nat.le_of_ble_eq_true rfl) ?_
  intro X C
  refine q_lv (lv' := [(0, .ref (gad G 5)), (1, .int a1)]) [0, 1] rfl ?_
  unfold m_Arr_fill_80 at hm
  refine q_iconst (pc := 0) (v := (0 : Int32)) C dJ7_fill_53178_0 (by decide) ?_
  refine q_istore_n (pc := 1) (lv' := [(2, .int (0 : Int32)), (0, .ref (gad G 5)), (1, .int a1)]) C dJ7_fill_53178_1 rfl (by decide) rfl ?_
  refine q_aload_n (pc := 2) C dJ7_fill_53178_2 rfl 1 rfl ?_
  refine q_alen (pc := 3) (v := (80 : Int32)) C (by decide) (ce_5 _ _ _) (ty_5 _) (by decide) dJ7_fill_53178_3 ?_
  refine q_istore_n (pc := 4) (lv' := [(3, .int (80 : Int32)), (2, .int (0 : Int32)), (0, .ref (gad G 5)), (1, .int a1)]) C dJ7_fill_53178_4 rfl (by decide) rfl ?_
  refine q_lv (lv' := [(0, .ref (gad G 5)), (1, .int a1), (2, .int (0 : Int32)), (3, .int (80 : Int32))]) [2, 3, 1, 0] rfl ?_
  obtain ⟨S1, h1, hm⟩ := o1_some hm
  refine w_Arr_fill_80_5_L5 hi C 200 _ _ _ _ _ h1 ?_
  cases hm
  exact q_vret (pc := 20) C dJ7_fill_53178_20
set_option maxRecDepth 100000 in
theorem c_Gr_isThing {G : Gx} (hi : qinj (gad G)) {S : St} {a1 : Int32} {zr : Int32} (hm : m_Gr_isThing S a1 = some zr) : QMet G yX2_isThing cX2_isThing 2 (some .boolean) 0 0 [.ref (gad G 1), .int a1] S (some (.int zr)) S := by
  refine q_entry (by decide +kernel) rfl hi (Nat.le_of_ble_eq_true rfl) ?_
  intro X C
  refine q_lv (lv' := [(0, .ref (gad G 1)), (1, .int a1)]) [0, 1] rfl ?_
  unfold m_Gr_isThing at hm
  refine q_iload_n (pc := 0) C dX2_isThing_0 rfl 1 rfl ?_
  refine q_if_lt (pc := 1) (tgt := 16) C dX2_isThing_1 (by decide) (fun c1 => ?_) (fun c1 => ?_)
  · replace hm := hm_t c1 hm
    refine q_iconst (pc := 16) (v := (0 : Int32)) C dX2_isThing_16 (by decide) ?_
    cases hm
    exact q_zret (pc := 17) C (by decide) dX2_isThing_17
  · replace hm := hm_f c1 hm
    refine q_iload_n (pc := 4) C dX2_isThing_4 rfl 1 rfl ?_
    refine q_aload_n (pc := 5) C dX2_isThing_5 rfl 0 rfl ?_
    refine q_get (pc := 6) (T := TX2) (v := .int (S 1 6)) C (by decide) (ce_1 _ _ _) (ci := 2) rfl inlX2 (j := 6) (by decide) rfl tw_118 (Or.inl rfl) dX2_isThing_6 ?_
    refine q_icmp_ge (pc := 9) (tgt := 16) C dX2_isThing_9 (by decide) (fun c2 => ?_) (fun c2 => ?_)
    · replace hm := hm_t c2 hm
      refine q_iconst (pc := 16) (v := (0 : Int32)) C dX2_isThing_16 (by decide) ?_
      cases hm
      exact q_zret (pc := 17) C (by decide) dX2_isThing_17
    · replace hm := hm_f c2 hm
      refine q_iconst (pc := 12) (v := (1 : Int32)) C dX2_isThing_12 (by decide) ?_
      refine q_goto (pc := 13) (tgt := 17) C dX2_isThing_13 (by decide) ?_
      cases hm
      exact q_zret (pc := 17) C (by decide) dX2_isThing_17
set_option maxRecDepth 100000 in
theorem c_Gr_distanceOf {G : Gx} (hi : qinj (gad G)) {S : St} {a1 : Int32} {zr : Int32} (hm : m_Gr_distanceOf S a1 = some zr) : QMet G yX2_distanceOf cX2_distanceOf 2 (some .int) 1 21 [.ref (gad G 1), .int a1] S (some (.int zr)) S := by
  refine q_entry (by decide +kernel) rfl hi (Nat.le_of_ble_eq_true rfl) ?_
  intro X C
  refine q_lv (lv' := [(0, .ref (gad G 1)), (1, .int a1)]) [0, 1] rfl ?_
  unfold m_Gr_distanceOf at hm
  refine q_aload_n (pc := 0) C dX2_distanceOf_0 rfl 0 rfl ?_
  refine q_iload_n (pc := 1) C dX2_distanceOf_1 rfl 1 rfl ?_
  obtain ⟨r1, h1, hm⟩ := o1_some hm
  refine q_callV (pc := 2) (k := 1) (As := [.int a1]) (rest := []) (T := TX2) C (c_Gr_isThing hi h1) (by decide) (ce_1 _ _ _) (ci := 2) rfl tw_599 tw_300 tw_301 tw_13 tw_302 (nA := 1) (by decide +kernel) rfl (by decide) (Nat.le_of_ble_eq_true rfl) rfl dX2_distanceOf_2 ?_
  refine q_if_eq (pc := 5) (tgt := 17) C dX2_distanceOf_5 (by decide) (fun c1 => ?_) (fun c1 => ?_)
  · replace hm := hm_t c1 hm
    refine q_iconst (pc := 17) (v := (-1 : Int32)) C dX2_distanceOf_17 (by decide) ?_
    cases hm
    exact q_iret (pc := 18) C dX2_distanceOf_18
  · replace hm := hm_f c1 hm
    refine q_aload_n (pc := 8) C dX2_distanceOf_8 rfl 0 rfl ?_
    refine q_get (pc := 9) (T := TX2) (v := .ref (gad G 5)) C (by decide) (ce_1 _ _ _) (ci := 2) rfl inlX2 (j := 3) (by decide) rfl tw_40 (Or.inl rfl) dX2_distanceOf_9 ?_
    refine q_iload_n (pc := 12) C dX2_distanceOf_12 rfl 1 rfl ?_
    obtain ⟨b1, hm⟩ := oi_some hm
    refine q_iald (pc := 13) C (by decide) (ce_5 _ _ _) (ty_5 _) b1 dX2_distanceOf_13 ?_
    refine q_goto (pc := 14) (tgt := 18) C dX2_distanceOf_14 (by decide) ?_
    cases hm
    exact q_iret (pc := 18) C dX2_distanceOf_18
set_option maxRecDepth 100000 in
theorem w_Gr_measureNamedBy_L10 {G : Gx} (hi : qinj (gad G)) {X : Cx} (C : QC G X cX2_measureNamedBy 5 RX2 2 42 none) {Q : State → Prop} : ∀ (n : Nat) (S : St) (v1 : Int32) (v2 : Int32) (v3 : Int32) (zS : St), m_Gr_measureNamedBy_L10 n S v1 v2 v3 = some zS → QW G X 5 Q 61 [] [] zS → QW G X 5 Q 10 [(0, .ref (gad G 1)), (1, .int v1), (2, .int v2), (3, .int v3)] [] S := by
  intro n
  induction n with
  | zero =>
    intro S v1 v2 v3 zS hm kk
    rw [m_Gr_measureNamedBy_L10] at hm
    cases hm
  | succ n ih =>
    intro S v1 v2 v3 zS hm kk
    rw [m_Gr_measureNamedBy_L10] at hm
    refine q_iload_n (pc := 10) C dX2_measureNamedBy_10 rfl 3 rfl ?_
    refine q_aload_n (pc := 11) C dX2_measureNamedBy_11 rfl 0 rfl ?_
    refine q_iload_n (pc := 12) C dX2_measureNamedBy_12 rfl 1 rfl ?_
    obtain ⟨r1, h1, hm⟩ := o1_some hm
    refine q_callV (pc := 13) (k := 1) (As := [.int v1]) (rest := [.int v3]) (T := TX2) C (c_Gr_fieldsOf hi h1) (by decide) (ce_1 _ _ _) (ci := 2) rfl tw_278 tw_279 tw_280 tw_13 tw_281 (nA := 1) (by decide +kernel) rfl (by decide) (Nat.le_of_ble_eq_true rfl) rfl dX2_measureNamedBy_13 ?_
    refine q_icmp_ge (pc := 16) (tgt := 61) C dX2_measureNamedBy_16 (by decide) (fun c1 => ?_) (fun c1 => ?_)
    · replace hm := hm_t c1 hm
      cases hm
      refine q_lv (lv' := []) [] rfl ?_
      exact kk
    · replace hm := hm_f c1 hm
      refine q_aload_n (pc := 19) C dX2_measureNamedBy_19 rfl 0 rfl ?_
      refine q_iload_n (pc := 20) C dX2_measureNamedBy_20 rfl 1 rfl ?_
      refine q_iload_n (pc := 21) C dX2_measureNamedBy_21 rfl 3 rfl ?_
      obtain ⟨r2, h2, hm⟩ := o1_some hm
      refine q_callV (pc := 22) (k := 1) (As := [.int v1, .int v3]) (rest := []) (T := TX2) C (c_Gr_nameOf hi h2) (by decide) (ce_1 _ _ _) (ci := 2) rfl tw_282 tw_283 tw_284 tw_13 tw_285 (nA := 2) (by decide +kernel) rfl (by decide) (Nat.le_of_ble_eq_true rfl) rfl dX2_measureNamedBy_22 ?_
      refine q_istore (pc := 25) (lv' := [(4, .int r2), (0, .ref (gad G 1)), (1, .int v1), (2, .int v2), (3, .int v3)]) C dX2_measureNamedBy_25 (by decide) rfl ?_
      refine q_aload_n (pc := 27) C dX2_measureNamedBy_27 rfl 1 rfl ?_
      refine q_iload (pc := 28) C dX2_measureNamedBy_28 0 rfl ?_
      obtain ⟨r3, h3, hm⟩ := o1_some hm
      refine q_callV (pc := 30) (k := 1) (As := [.int r2]) (rest := []) (T := TX2) C (c_Gr_isThing hi h3) (by decide) (ce_1 _ _ _) (ci := 2) rfl tw_599 tw_300 tw_301 tw_13 tw_302 (nA := 1) (by decide +kernel) rfl (by decide) (Nat.le_of_ble_eq_true rfl) rfl dX2_measureNamedBy_30 ?_
      refine q_if_eq (pc := 33) (tgt := 55) C dX2_measureNamedBy_33 (by decide) (fun c2 => ?_) (fun c2 => ?_)
      · replace hm := hm_t c2 hm
        refine q_iinc (pc := 55) (k := 4) (v := (v3 + (1 : Int32))) (lv' := [(3, .int (v3 + (1 : Int32))), (4, .int r2), (0, .ref (gad G 1)), (1, .int v1), (2, .int v2)]) C dX2_measureNamedBy_55 rfl rfl (by decide) rfl ?_
        refine q_goto (pc := 58) (tgt := 10) C dX2_measureNamedBy_58 (by decide) ?_
        refine q_lv (lv' := [(0, .ref (gad G 1)), (1, .int v1), (2, .int v2), (3, .int (v3 + (1 : Int32)))]) [2, 3, 4, 0] rfl ?_
        exact ih _ _ _ _ _ hm kk
      · replace hm := hm_f c2 hm
        refine q_aload_n (pc := 36) C dX2_measureNamedBy_36 rfl 1 rfl ?_
        refine q_get (pc := 37) (T := TX2) (v := .ref (gad G 5)) C (by decide) (ce_1 _ _ _) (ci := 2) rfl inlX2 (j := 3) (by decide) rfl tw_40 (Or.inl rfl) dX2_measureNamedBy_37 ?_
        refine q_iload (pc := 40) C dX2_measureNamedBy_40 0 rfl ?_
        obtain ⟨b1, hm⟩ := oi_some hm
        refine q_iald (pc := 42) C (by decide) (ce_5 _ _ _) (ty_5 _) b1 dX2_measureNamedBy_42 ?_
        refine q_iconst (pc := 43) (v := (-1 : Int32)) C dX2_measureNamedBy_43 (by decide) ?_
        refine q_icmp_ne (pc := 44) (tgt := 55) C dX2_measureNamedBy_44 (by decide) (fun c3 => ?_) (fun c3 => ?_)
        · replace hm := hm_f c3 hm
          refine q_iinc (pc := 55) (k := 4) (v := (v3 + (1 : Int32))) (lv' := [(3, .int (v3 + (1 : Int32))), (4, .int r2), (0, .ref (gad G 1)), (1, .int v1), (2, .int v2)]) C dX2_measureNamedBy_55 rfl rfl (by decide) rfl ?_
          refine q_goto (pc := 58) (tgt := 10) C dX2_measureNamedBy_58 (by decide) ?_
          refine q_lv (lv' := [(0, .ref (gad G 1)), (1, .int v1), (2, .int v2), (3, .int (v3 + (1 : Int32)))]) [2, 3, 4, 0] rfl ?_
          exact ih _ _ _ _ _ hm kk
        · replace hm := hm_t c3 hm
          refine q_aload_n (pc := 47) C dX2_measureNamedBy_47 rfl 1 rfl ?_
          refine q_get (pc := 48) (T := TX2) (v := .ref (gad G 5)) C (by decide) (ce_1 _ _ _) (ci := 2) rfl inlX2 (j := 3) (by decide) rfl tw_40 (Or.inl rfl) dX2_measureNamedBy_48 ?_
          refine q_iload (pc := 51) C dX2_measureNamedBy_51 0 rfl ?_
          refine q_iload_n (pc := 53) C dX2_measureNamedBy_53 rfl 3 rfl ?_
          obtain ⟨b2, hm⟩ := oi_some hm
          refine q_iast (pc := 54) C (by decide) (fun _ => ce_5 _ _ _) (ty_5 _) b2 dX2_measureNamedBy_54 ?_
          refine q_iinc (pc := 55) (k := 4) (v := (v3 + (1 : Int32))) (lv' := [(3, .int (v3 + (1 : Int32))), (4, .int r2), (0, .ref (gad G 1)), (1, .int v1), (2, .int v2)]) C dX2_measureNamedBy_55 rfl rfl (by decide) rfl ?_
          refine q_goto (pc := 58) (tgt := 10) C dX2_measureNamedBy_58 (by decide) ?_
          refine q_lv (lv' := [(0, .ref (gad G 1)), (1, .int v1), (2, .int v2), (3, .int (v3 + (1 : Int32)))]) [2, 3, 4, 0] rfl ?_
          exact ih _ _ _ _ _ hm kk
set_option maxRecDepth 100000 in
theorem c_Gr_measureNamedBy {G : Gx} (hi : qinj (gad G)) {S : St} {a1 : Int32} {zS : St} (hm : m_Gr_measureNamedBy S a1 = some zS) : QMet G yX2_measureNamedBy cX2_measureNamedBy 5 none 2 42 [.ref (gad G 1), .int a1] S none zS := by
  refine q_entry (by decide +kernel) rfl hi (Nat.le_of_ble_eq_true rfl) ?_
  intro X C
  refine q_lv (lv' := [(0, .ref (gad G 1)), (1, .int a1)]) [0, 1] rfl ?_
  unfold m_Gr_measureNamedBy at hm
  refine q_aload_n (pc := 0) C dX2_measureNamedBy_0 rfl 0 rfl ?_
  refine q_iload_n (pc := 1) C dX2_measureNamedBy_1 rfl 1 rfl ?_
  obtain ⟨r1, h1, hm⟩ := o1_some hm
  refine q_callV (pc := 2) (k := 1) (As := [.int a1]) (rest := []) (T := TX2) C (c_Gr_distanceOf hi h1) (by decide) (ce_1 _ _ _) (ci := 2) rfl tw_604 tw_605 tw_606 tw_13 tw_607 (nA := 1) (by decide +kernel) rfl (by decide) (Nat.le_of_ble_eq_true rfl) rfl dX2_measureNamedBy_2 ?_
  refine q_iconst (pc := 5) (v := (1 : Int32)) C dX2_measureNamedBy_5 (by decide) ?_
  refine q_iadd (pc := 6) C dX2_measureNamedBy_6 ?_
  refine q_istore_n (pc := 7) (lv' := [(2, .int (r1 + (1 : Int32))), (0, .ref (gad G 1)), (1, .int a1)]) C dX2_measureNamedBy_7 rfl (by decide) rfl ?_
  refine q_iconst (pc := 8) (v := (0 : Int32)) C dX2_measureNamedBy_8 (by decide) ?_
  refine q_istore_n (pc := 9) (lv' := [(3, .int (0 : Int32)), (2, .int (r1 + (1 : Int32))), (0, .ref (gad G 1)), (1, .int a1)]) C dX2_measureNamedBy_9 rfl (by decide) rfl ?_
  refine q_lv (lv' := [(0, .ref (gad G 1)), (1, .int a1), (2, .int (r1 + (1 : Int32))), (3, .int (0 : Int32))]) [2, 3, 1, 0] rfl ?_
  obtain ⟨S1, h2, hm⟩ := o1_some hm
  refine w_Gr_measureNamedBy_L10 hi C 200 _ _ _ _ _ h2 ?_
  cases hm
  exact q_vret (pc := 61) C dX2_measureNamedBy_61
set_option maxRecDepth 100000 in
theorem w_Gr_measure_L19 {G : Gx} (hi : qinj (gad G)) {X : Cx} (C : QC G X cX2_measure 2 RX2 3 68 none) {Q : State → Prop} : ∀ (n : Nat) (S : St) (v1 : Int32) (zS : St), m_Gr_measure_L19 n S v1 = some zS → QW G X 2 Q 56 [(0, .ref (gad G 1))] [] zS → QW G X 2 Q 19 [(0, .ref (gad G 1)), (1, .int v1)] [] S := by
  intro n
  induction n with
  | zero =>
    intro S v1 zS hm kk
    rw [m_Gr_measure_L19] at hm
    cases hm
  | succ n ih =>
    intro S v1 zS hm kk
    rw [m_Gr_measure_L19] at hm
    refine q_iload_n (pc := 19) C dX2_measure_19 rfl 1 rfl ?_
    refine q_bipush (pc := 20) (v := (6 : Int32)) C dX2_measure_20 (by decide) ?_
    refine q_icmp_ge (pc := 22) (tgt := 56) C dX2_measure_22 (by decide) (fun c1 => ?_) (fun c1 => ?_)
    · replace hm := hm_t c1 hm
      cases hm
      refine q_lv (lv' := [(0, .ref (gad G 1))]) [0] rfl ?_
      exact kk
    · replace hm := hm_f c1 hm
      refine q_aload_n (pc := 25) C dX2_measure_25 rfl 0 rfl ?_
      refine q_aload_n (pc := 26) C dX2_measure_26 rfl 0 rfl ?_
      refine q_get (pc := 27) (T := TX2) (v := .ref (gad G 4)) C (by decide) (ce_1 _ _ _) (ci := 2) rfl inlX2 (j := 2) (by decide) rfl tw_39 (Or.inl rfl) dX2_measure_27 ?_
      refine q_iload_n (pc := 30) C dX2_measure_30 rfl 1 rfl ?_
      obtain ⟨b1, hm⟩ := oi_some hm
      refine q_iald (pc := 31) C (by decide) (ce_4 _ _ _) (ty_4 _) b1 dX2_measure_31 ?_
      obtain ⟨r1, h1, hm⟩ := o1_some hm
      refine q_callV (pc := 32) (k := 1) (As := [.int (S 4 v1.toNatClampNeg)]) (rest := []) (T := TX2) C (c_Gr_isThing hi h1) (by decide) (ce_1 _ _ _) (ci := 2) rfl tw_599 tw_300 tw_301 tw_13 tw_302 (nA := 1) (by decide +kernel) rfl (by decide) (Nat.le_of_ble_eq_true rfl) rfl dX2_measure_32 ?_
      refine q_if_eq (pc := 35) (tgt := 50) C dX2_measure_35 (by decide) (fun c2 => ?_) (fun c2 => ?_)
      · replace hm := hm_t c2 hm
        refine q_iinc (pc := 50) (k := 1) (v := (v1 + (1 : Int32))) (lv' := [(1, .int (v1 + (1 : Int32))), (0, .ref (gad G 1))]) C dX2_measure_50 rfl rfl (by decide) rfl ?_
        refine q_goto (pc := 53) (tgt := 19) C dX2_measure_53 (by decide) ?_
        refine q_lv (lv' := [(0, .ref (gad G 1)), (1, .int (v1 + (1 : Int32)))]) [1, 0] rfl ?_
        exact ih _ _ _ hm kk
      · replace hm := hm_f c2 hm
        refine q_aload_n (pc := 38) C dX2_measure_38 rfl 0 rfl ?_
        refine q_get (pc := 39) (T := TX2) (v := .ref (gad G 5)) C (by decide) (ce_1 _ _ _) (ci := 2) rfl inlX2 (j := 3) (by decide) rfl tw_40 (Or.inl rfl) dX2_measure_39 ?_
        refine q_aload_n (pc := 42) C dX2_measure_42 rfl 0 rfl ?_
        refine q_get (pc := 43) (T := TX2) (v := .ref (gad G 4)) C (by decide) (ce_1 _ _ _) (ci := 2) rfl inlX2 (j := 2) (by decide) rfl tw_39 (Or.inl rfl) dX2_measure_43 ?_
        refine q_iload_n (pc := 46) C dX2_measure_46 rfl 1 rfl ?_
        obtain ⟨b2, hm⟩ := oi_some hm
        refine q_iald (pc := 47) C (by decide) (ce_4 _ _ _) (ty_4 _) b2 dX2_measure_47 ?_
        refine q_iconst (pc := 48) (v := (0 : Int32)) C dX2_measure_48 (by decide) ?_
        obtain ⟨b3, hm⟩ := oi_some hm
        refine q_iast (pc := 49) C (by decide) (fun _ => ce_5 _ _ _) (ty_5 _) b3 dX2_measure_49 ?_
        refine q_iinc (pc := 50) (k := 1) (v := (v1 + (1 : Int32))) (lv' := [(1, .int (v1 + (1 : Int32))), (0, .ref (gad G 1))]) C dX2_measure_50 rfl rfl (by decide) rfl ?_
        refine q_goto (pc := 53) (tgt := 19) C dX2_measure_53 (by decide) ?_
        refine q_lv (lv' := [(0, .ref (gad G 1)), (1, .int (v1 + (1 : Int32)))]) [1, 0] rfl ?_
        exact ih _ _ _ hm kk
set_option maxRecDepth 100000 in
theorem w_Gr_measure_L58 {G : Gx} (hi : qinj (gad G)) {X : Cx} (C : QC G X cX2_measure 2 RX2 3 68 none) {Q : State → Prop} : ∀ (n : Nat) (S : St) (v1 : Int32) (zS : St), m_Gr_measure_L58 n S v1 = some zS → QW G X 2 Q 87 [] [] zS → QW G X 2 Q 58 [(0, .ref (gad G 1)), (1, .int v1)] [] S := by
  intro n
  induction n with
  | zero =>
    intro S v1 zS hm kk
    rw [m_Gr_measure_L58] at hm
    cases hm
  | succ n ih =>
    intro S v1 zS hm kk
    rw [m_Gr_measure_L58] at hm
    refine q_iload_n (pc := 58) C dX2_measure_58 rfl 1 rfl ?_
    refine q_aload_n (pc := 59) C dX2_measure_59 rfl 0 rfl ?_
    refine q_get (pc := 60) (T := TX2) (v := .ref (gad G 6)) C (by decide) (ce_1 _ _ _) (ci := 2) rfl inlX2 (j := 4) (by decide) rfl tw_44 (Or.inl rfl) dX2_measure_60 ?_
    refine q_get (pc := 63) (T := TX5) (v := .int (S 6 2)) C (by decide) (ce_6 _ _ _) (ci := 5) rfl inlX5 (j := 2) (by decide) rfl tw_265 (Or.inl rfl) dX2_measure_63 ?_
    refine q_icmp_ge (pc := 66) (tgt := 87) C dX2_measure_66 (by decide) (fun c1 => ?_) (fun c1 => ?_)
    · replace hm := hm_t c1 hm
      cases hm
      refine q_lv (lv' := []) [] rfl ?_
      exact kk
    · replace hm := hm_f c1 hm
      refine q_aload_n (pc := 69) C dX2_measure_69 rfl 0 rfl ?_
      refine q_aload_n (pc := 70) C dX2_measure_70 rfl 0 rfl ?_
      refine q_get (pc := 71) (T := TX2) (v := .ref (gad G 6)) C (by decide) (ce_1 _ _ _) (ci := 2) rfl inlX2 (j := 4) (by decide) rfl tw_44 (Or.inl rfl) dX2_measure_71 ?_
      refine q_iload_n (pc := 74) C dX2_measure_74 rfl 1 rfl ?_
      obtain ⟨r1, h1, hm⟩ := o1_some hm
      refine q_callV (pc := 75) (k := 6) (As := [.int v1]) (rest := [.ref (gad G 1)]) (T := TX5) C (c_Row_get_6 hi h1) (by decide) (ce_6 _ _ _) (ci := 5) rfl tw_270 tw_271 tw_272 tw_43 tw_273 (nA := 1) (by decide +kernel) rfl (by decide) (Nat.le_of_ble_eq_true rfl) rfl dX2_measure_75 ?_
      obtain ⟨S1, h2, hm⟩ := o1_some hm
      refine q_callV (pc := 78) (k := 1) (As := [.int r1]) (rest := []) (T := TX2) C (c_Gr_measureNamedBy hi h2) (by decide) (ce_1 _ _ _) (ci := 2) rfl tw_600 tw_601 tw_602 tw_13 tw_603 (nA := 1) (by decide +kernel) rfl (by decide) (Nat.le_of_ble_eq_true rfl) rfl dX2_measure_78 ?_
      refine q_iinc (pc := 81) (k := 1) (v := (v1 + (1 : Int32))) (lv' := [(1, .int (v1 + (1 : Int32))), (0, .ref (gad G 1))]) C dX2_measure_81 rfl rfl (by decide) rfl ?_
      refine q_goto (pc := 84) (tgt := 58) C dX2_measure_84 (by decide) ?_
      refine q_lv (lv' := [(0, .ref (gad G 1)), (1, .int (v1 + (1 : Int32)))]) [1, 0] rfl ?_
      exact ih _ _ _ hm kk
set_option maxRecDepth 100000 in
theorem c_Gr_measure {G : Gx} (hi : qinj (gad G)) {S : St}  {zS : St} (hm : m_Gr_measure S  = some zS) : QMet G yX2_measure cX2_measure 2 none 3 68 [.ref (gad G 1)] S none zS := by
  refine q_entry (by decide +kernel) rfl hi (Nat.le_of_ble_eq_true rfl) ?_
  intro X C
  refine q_lv (lv' := [(0, .ref (gad G 1))]) [0] rfl ?_
  unfold m_Gr_measure at hm
  refine q_aload_n (pc := 0) C dX2_measure_0 rfl 0 rfl ?_
  refine q_aload_n (pc := 1) C dX2_measure_1 rfl 0 rfl ?_
  refine q_get (pc := 2) (T := TX2) (v := .ref (gad G 6)) C (by decide) (ce_1 _ _ _) (ci := 2) rfl inlX2 (j := 4) (by decide) rfl tw_44 (Or.inl rfl) dX2_measure_2 ?_
  refine q_iconst (pc := 5) (v := (-1 : Int32)) C dX2_measure_5 (by decide) ?_
  obtain ⟨S1, h1, hm⟩ := o1_some hm
  refine q_callV (pc := 6) (k := 1) (As := [.ref (gad G 6), .int (-1 : Int32)]) (rest := []) (T := TX2) C (c_Gr_trace_6 hi h1) (by decide) (ce_1 _ _ _) (ci := 2) rfl tw_598 tw_262 tw_263 tw_13 tw_264 (nA := 2) (by decide +kernel) rfl (by decide) (Nat.le_of_ble_eq_true rfl) rfl dX2_measure_6 ?_
  refine q_aload_n (pc := 9) C dX2_measure_9 rfl 0 rfl ?_
  refine q_get (pc := 10) (T := TX2) (v := .ref (gad G 5)) C (by decide) (ce_1 _ _ _) (ci := 2) rfl inlX2 (j := 3) (by decide) rfl tw_40 (Or.inl rfl) dX2_measure_10 ?_
  refine q_iconst (pc := 13) (v := (-1 : Int32)) C dX2_measure_13 (by decide) ?_
  obtain ⟨S2, h2, hm⟩ := o1_some hm
  refine q_callS (pc := 14) (As := [.ref (gad G 5), .int (-1 : Int32)]) (rest := []) C (c_Arr_fill_80_5 hi h2) tw_119 tw_120 tw_121 tw_122 (nA := 2) (by decide +kernel) rfl (by decide) (Nat.le_of_ble_eq_true rfl) rfl dX2_measure_14 ?_
  refine q_iconst (pc := 17) (v := (0 : Int32)) C dX2_measure_17 (by decide) ?_
  refine q_istore_n (pc := 18) (lv' := [(1, .int (0 : Int32)), (0, .ref (gad G 1))]) C dX2_measure_18 rfl (by decide) rfl ?_
  refine q_lv (lv' := [(0, .ref (gad G 1)), (1, .int (0 : Int32))]) [1, 0] rfl ?_
  obtain ⟨S3, h3, hm⟩ := o1_some hm
  refine w_Gr_measure_L19 hi C 200 _ _ _ h3 ?_
  refine q_iconst (pc := 56) (v := (0 : Int32)) C dX2_measure_56 (by decide) ?_
  refine q_istore_n (pc := 57) (lv' := [(1, .int (0 : Int32)), (0, .ref (gad G 1))]) C dX2_measure_57 rfl (by decide) rfl ?_
  refine q_lv (lv' := [(0, .ref (gad G 1)), (1, .int (0 : Int32))]) [1, 0] rfl ?_
  obtain ⟨S4, h4, hm⟩ := o1_some hm
  refine w_Gr_measure_L58 hi C 200 _ _ _ h4 ?_
  cases hm
  exact q_vret (pc := 87) C dX2_measure_87
set_option maxRecDepth 100000 in
theorem c_Gr_nameByRoot {G : Gx} (hi : qinj (gad G)) {S : St} {a1 : Int32} {a2 : Int32} {zS : St} (hm : m_Gr_nameByRoot S a1 a2 = some zS) : QMet G yX2_nameByRoot cX2_nameByRoot 3 none 4 89 [.ref (gad G 1), .int a1, .int a2] S none zS := by
  refine q_entry (by decide +kernel) rfl hi (Nat.le_of_ble_eq_true rfl) ?_
  intro X C
  refine q_lv (lv' := [(0, .ref (gad G 1)), (1, .int a1), (2, .int a2)]) [0, 1, 2] rfl ?_
  unfold m_Gr_nameByRoot at hm
  refine q_iload_n (pc := 0) C dX2_nameByRoot_0 rfl 1 rfl ?_
  refine q_if_lt (pc := 1) (tgt := 21) C dX2_nameByRoot_1 (by decide) (fun c1 => ?_) (fun c1 => ?_)
  · replace hm := hm_t c1 hm
    cases hm
    exact q_vret (pc := 21) C dX2_nameByRoot_21
  · replace hm := hm_f c1 hm
    refine q_iload_n (pc := 4) C dX2_nameByRoot_4 rfl 1 rfl ?_
    refine q_bipush (pc := 5) (v := (6 : Int32)) C dX2_nameByRoot_5 (by decide) ?_
    refine q_icmp_ge (pc := 7) (tgt := 21) C dX2_nameByRoot_7 (by decide) (fun c2 => ?_) (fun c2 => ?_)
    · replace hm := hm_t c2 hm
      cases hm
      exact q_vret (pc := 21) C dX2_nameByRoot_21
    · replace hm := hm_f c2 hm
      refine q_aload_n (pc := 10) C dX2_nameByRoot_10 rfl 0 rfl ?_
      refine q_get (pc := 11) (T := TX2) (v := .ref (gad G 4)) C (by decide) (ce_1 _ _ _) (ci := 2) rfl inlX2 (j := 2) (by decide) rfl tw_39 (Or.inl rfl) dX2_nameByRoot_11 ?_
      refine q_iload_n (pc := 14) C dX2_nameByRoot_14 rfl 1 rfl ?_
      refine q_iload_n (pc := 15) C dX2_nameByRoot_15 rfl 2 rfl ?_
      obtain ⟨b1, hm⟩ := oi_some hm
      refine q_iast (pc := 16) C (by decide) (fun _ => ce_4 _ _ _) (ty_4 _) b1 dX2_nameByRoot_16 ?_
      refine q_aload_n (pc := 17) C dX2_nameByRoot_17 rfl 0 rfl ?_
      obtain ⟨S1, h1, hm⟩ := o1_some hm
      refine q_callV (pc := 18) (k := 1) (As := []) (rest := []) (T := TX2) C (c_Gr_measure hi h1) (by decide) (ce_1 _ _ _) (ci := 2) rfl tw_594 tw_595 tw_596 tw_13 tw_597 (nA := 0) (by decide +kernel) rfl (by decide) (Nat.le_of_ble_eq_true rfl) rfl dX2_nameByRoot_18 ?_
      cases hm
      exact q_vret (pc := 21) C dX2_nameByRoot_21
set_option maxRecDepth 100000 in
theorem c_St_has_42 {G : Gx} (hi : qinj (gad G)) {S : St} {a1 : Int32} {zr : Int32} (hm : m_St_has 42 1 S a1 = some zr) : QMet G yX7_has cX7_has 2 (some .boolean) 0 0 [.ref (gad G 42), .int a1] S (some (.int zr)) S := by
  refine q_entry (by decide +kernel) rfl hi (Nat.le_of_ble_eq_true rfl) ?_
  intro X C
  refine q_lv (lv' := [(0, .ref (gad G 42)), (1, .int a1)]) [0, 1] rfl ?_
  unfold m_St_has at hm
  refine q_iload_n (pc := 0) C dX7_has_0 rfl 1 rfl ?_
  refine q_if_lt (pc := 1) (tgt := 23) C dX7_has_1 (by decide) (fun c1 => ?_) (fun c1 => ?_)
  · replace hm := hm_t c1 hm
    refine q_iconst (pc := 23) (v := (0 : Int32)) C dX7_has_23 (by decide) ?_
    cases hm
    exact q_zret (pc := 24) C (by decide) dX7_has_24
  · replace hm := hm_f c1 hm
    refine q_iload_n (pc := 4) C dX7_has_4 rfl 1 rfl ?_
    refine q_bipush (pc := 5) (v := (80 : Int32)) C dX7_has_5 (by decide) ?_
    refine q_icmp_ge (pc := 7) (tgt := 23) C dX7_has_7 (by decide) (fun c2 => ?_) (fun c2 => ?_)
    · replace hm := hm_t c2 hm
      refine q_iconst (pc := 23) (v := (0 : Int32)) C dX7_has_23 (by decide) ?_
      cases hm
      exact q_zret (pc := 24) C (by decide) dX7_has_24
    · replace hm := hm_f c2 hm
      refine q_aload_n (pc := 10) C dX7_has_10 rfl 0 rfl ?_
      refine q_get (pc := 11) (T := TX1) (v := .ref (gad G 43)) C (by decide) (ce_42 _ _ _) (ci := 1) rfl inlX1 (j := 8) (by decide) rfl tw_65 (Or.inl rfl) dX7_has_11 ?_
      refine q_iload_n (pc := 14) C dX7_has_14 rfl 1 rfl ?_
      obtain ⟨b1, hm⟩ := oi_some hm
      refine q_zald (pc := 15) C (by decide) (ce_43 _ _ _) (ty_43 _) b1 dX7_has_15 ?_
      refine q_if_eq (pc := 16) (tgt := 23) C dX7_has_16 (by decide) (fun c3 => ?_) (fun c3 => ?_)
      · replace hm := hm_t c3 hm
        refine q_iconst (pc := 23) (v := (0 : Int32)) C dX7_has_23 (by decide) ?_
        cases hm
        exact q_zret (pc := 24) C (by decide) dX7_has_24
      · replace hm := hm_f c3 hm
        refine q_iconst (pc := 19) (v := (1 : Int32)) C dX7_has_19 (by decide) ?_
        refine q_goto (pc := 20) (tgt := 24) C dX7_has_20 (by decide) ?_
        cases hm
        exact q_zret (pc := 24) C (by decide) dX7_has_24
set_option maxRecDepth 100000 in
theorem w_Row_empty_49_L2 {G : Gx} (hi : qinj (gad G)) {X : Cx} (C : QC G X cX5_empty 2 RX5 0 0 none) {Q : State → Prop} : ∀ (n : Nat) (S : St) (v1 : Int32) (zS : St), m_Row_empty_L2 49 n S v1 = some zS → QW G X 2 Q 21 [(0, .ref (gad G 49))] [] zS → QW G X 2 Q 2 [(0, .ref (gad G 49)), (1, .int v1)] [] S := by
  intro n
  induction n with
  | zero =>
    intro S v1 zS hm kk
    rw [m_Row_empty_L2] at hm
    cases hm
  | succ n ih =>
    intro S v1 zS hm kk
    rw [m_Row_empty_L2] at hm
    refine q_iload_n (pc := 2) C dX5_empty_2 rfl 1 rfl ?_
    refine q_bipush (pc := 3) (v := (80 : Int32)) C dX5_empty_3 (by decide) ?_
    refine q_icmp_ge (pc := 5) (tgt := 21) C dX5_empty_5 (by decide) (fun c1 => ?_) (fun c1 => ?_)
    · replace hm := hm_t c1 hm
      cases hm
      refine q_lv (lv' := [(0, .ref (gad G 49))]) [0] rfl ?_
      exact kk
    · replace hm := hm_f c1 hm
      refine q_aload_n (pc := 8) C dX5_empty_8 rfl 0 rfl ?_
      refine q_get (pc := 9) (T := TX5) (v := .ref (gad G 51)) C (by decide) (ce_49 _ _ _) (ci := 5) rfl inlX5 (j := 1) (by decide) rfl tw_50 (Or.inl rfl) dX5_empty_9 ?_
      refine q_iload_n (pc := 12) C dX5_empty_12 rfl 1 rfl ?_
      refine q_iconst (pc := 13) (v := (0 : Int32)) C dX5_empty_13 (by decide) ?_
      obtain ⟨b1, hm⟩ := oi_some hm
      refine q_zast0 (pc := 14) C (by decide) (fun _ => ce_51 _ _ _) (ty_51 _) b1 dX5_empty_14 ?_
      refine q_iinc (pc := 15) (k := 1) (v := (v1 + (1 : Int32))) (lv' := [(1, .int (v1 + (1 : Int32))), (0, .ref (gad G 49))]) C dX5_empty_15 rfl rfl (by decide) rfl ?_
      refine q_goto (pc := 18) (tgt := 2) C dX5_empty_18 (by decide) ?_
      refine q_lv (lv' := [(0, .ref (gad G 49)), (1, .int (v1 + (1 : Int32)))]) [1, 0] rfl ?_
      exact ih _ _ _ hm kk
set_option maxRecDepth 100000 in
theorem c_Row_empty_49 {G : Gx} (hi : qinj (gad G)) {S : St}  {zS : St} (hm : m_Row_empty 49 S  = some zS) : QMet G yX5_empty cX5_empty 2 none 0 0 [.ref (gad G 49)] S none zS := by
  refine q_entry (by decide +kernel) rfl hi (Nat.le_of_ble_eq_true rfl) ?_
  intro X C
  refine q_lv (lv' := [(0, .ref (gad G 49))]) [0] rfl ?_
  unfold m_Row_empty at hm
  refine q_iconst (pc := 0) (v := (0 : Int32)) C dX5_empty_0 (by decide) ?_
  refine q_istore_n (pc := 1) (lv' := [(1, .int (0 : Int32)), (0, .ref (gad G 49))]) C dX5_empty_1 rfl (by decide) rfl ?_
  refine q_lv (lv' := [(0, .ref (gad G 49)), (1, .int (0 : Int32))]) [1, 0] rfl ?_
  obtain ⟨S1, h1, hm⟩ := o1_some hm
  refine w_Row_empty_49_L2 hi C 200 _ _ _ h1 ?_
  refine q_aload_n (pc := 21) C dX5_empty_21 rfl 0 rfl ?_
  refine q_iconst (pc := 22) (v := (0 : Int32)) C dX5_empty_22 (by decide) ?_
  refine q_put (pc := 23) (T := TX5) (ty := .int) C tyX5 tyX5_ok nmX5 (by decide) (ce_49 _ _ _) (pe_49_2 _ _ _ _) (ci := 5) rfl inlX5 (j := 2) (by decide) (Nat.le_of_ble_eq_true rfl) tw_127 (Or.inl rfl) rfl (by decide +kernel) rfl rfl dX5_empty_23 ?_
  cases hm
  exact q_vret (pc := 26) C dX5_empty_26
set_option maxRecDepth 100000 in
theorem c_St_letGo_42 {G : Gx} (hi : qinj (gad G)) {S : St} {a1 : Int32} {zS : St} (hm : m_St_letGo 42 1 S a1 = some zS) : QMet G yX7_letGo cX7_letGo 2 none 0 0 [.ref (gad G 42), .int a1] S none zS := by
  refine q_entry (by decide +kernel) rfl hi (Nat.le_of_ble_eq_true rfl) ?_
  intro X C
  refine q_lv (lv' := [(0, .ref (gad G 42)), (1, .int a1)]) [0, 1] rfl ?_
  unfold m_St_letGo at hm
  refine q_iload_n (pc := 0) C dX7_letGo_0 rfl 1 rfl ?_
  refine q_if_lt (pc := 1) (tgt := 17) C dX7_letGo_1 (by decide) (fun c1 => ?_) (fun c1 => ?_)
  · replace hm := hm_t c1 hm
    cases hm
    exact q_vret (pc := 17) C dX7_letGo_17
  · replace hm := hm_f c1 hm
    refine q_iload_n (pc := 4) C dX7_letGo_4 rfl 1 rfl ?_
    refine q_bipush (pc := 5) (v := (80 : Int32)) C dX7_letGo_5 (by decide) ?_
    refine q_icmp_ge (pc := 7) (tgt := 17) C dX7_letGo_7 (by decide) (fun c2 => ?_) (fun c2 => ?_)
    · replace hm := hm_t c2 hm
      cases hm
      exact q_vret (pc := 17) C dX7_letGo_17
    · replace hm := hm_f c2 hm
      refine q_aload_n (pc := 10) C dX7_letGo_10 rfl 0 rfl ?_
      refine q_get (pc := 11) (T := TX1) (v := .ref (gad G 43)) C (by decide) (ce_42 _ _ _) (ci := 1) rfl inlX1 (j := 8) (by decide) rfl tw_65 (Or.inl rfl) dX7_letGo_11 ?_
      refine q_iload_n (pc := 14) C dX7_letGo_14 rfl 1 rfl ?_
      refine q_iconst (pc := 15) (v := (0 : Int32)) C dX7_letGo_15 (by decide) ?_
      obtain ⟨b1, hm⟩ := oi_some hm
      refine q_zast0 (pc := 16) C (by decide) (fun _ => ce_43 _ _ _) (ty_43 _) b1 dX7_letGo_16 ?_
      cases hm
      exact q_vret (pc := 17) C dX7_letGo_17
set_option maxRecDepth 100000 in
theorem c_Row_add_49 {G : Gx} (hi : qinj (gad G)) {S : St} {a1 : Int32} {zS : St} (hm : m_Row_add 49 S a1 = some zS) : QMet G yX5_add cX5_add 2 none 0 0 [.ref (gad G 49), .int a1] S none zS := by
  refine q_entry (by decide +kernel) rfl hi (Nat.le_of_ble_eq_true rfl) ?_
  intro X C
  refine q_lv (lv' := [(0, .ref (gad G 49)), (1, .int a1)]) [0, 1] rfl ?_
  unfold m_Row_add at hm
  refine q_iload_n (pc := 0) C dX5_add_0 rfl 1 rfl ?_
  refine q_if_lt (pc := 1) (tgt := 28) C dX5_add_1 (by decide) (fun c1 => ?_) (fun c1 => ?_)
  · replace hm := hm_t c1 hm
    cases hm
    exact q_vret (pc := 28) C dX5_add_28
  · replace hm := hm_f c1 hm
    refine q_iload_n (pc := 4) C dX5_add_4 rfl 1 rfl ?_
    refine q_bipush (pc := 5) (v := (80 : Int32)) C dX5_add_5 (by decide) ?_
    refine q_icmp_ge (pc := 7) (tgt := 28) C dX5_add_7 (by decide) (fun c2 => ?_) (fun c2 => ?_)
    · replace hm := hm_t c2 hm
      cases hm
      exact q_vret (pc := 28) C dX5_add_28
    · replace hm := hm_f c2 hm
      refine q_aload_n (pc := 10) C dX5_add_10 rfl 0 rfl ?_
      refine q_get (pc := 11) (T := TX5) (v := .ref (gad G 51)) C (by decide) (ce_49 _ _ _) (ci := 5) rfl inlX5 (j := 1) (by decide) rfl tw_50 (Or.inl rfl) dX5_add_11 ?_
      refine q_iload_n (pc := 14) C dX5_add_14 rfl 1 rfl ?_
      obtain ⟨b1, hm⟩ := oi_some hm
      refine q_zald (pc := 15) C (by decide) (ce_51 _ _ _) (ty_51 _) b1 dX5_add_15 ?_
      refine q_if_ne (pc := 16) (tgt := 28) C dX5_add_16 (by decide) (fun c3 => ?_) (fun c3 => ?_)
      · replace hm := hm_f c3 hm
        cases hm
        exact q_vret (pc := 28) C dX5_add_28
      · replace hm := hm_t c3 hm
        refine q_aload_n (pc := 19) C dX5_add_19 rfl 0 rfl ?_
        refine q_get (pc := 20) (T := TX5) (v := .int (S 49 2)) C (by decide) (ce_49 _ _ _) (ci := 5) rfl inlX5 (j := 2) (by decide) rfl tw_127 (Or.inl rfl) dX5_add_20 ?_
        refine q_bipush (pc := 23) (v := (80 : Int32)) C dX5_add_23 (by decide) ?_
        refine q_icmp_lt (pc := 25) (tgt := 29) C dX5_add_25 (by decide) (fun c4 => ?_) (fun c4 => ?_)
        · replace hm := hm_t c4 hm
          refine q_aload_n (pc := 29) C dX5_add_29 rfl 0 rfl ?_
          refine q_get (pc := 30) (T := TX5) (v := .ref (gad G 51)) C (by decide) (ce_49 _ _ _) (ci := 5) rfl inlX5 (j := 1) (by decide) rfl tw_50 (Or.inl rfl) dX5_add_30 ?_
          refine q_iload_n (pc := 33) C dX5_add_33 rfl 1 rfl ?_
          refine q_iconst (pc := 34) (v := (1 : Int32)) C dX5_add_34 (by decide) ?_
          obtain ⟨b2, hm⟩ := oi_some hm
          refine q_zast1 (pc := 35) C (by decide) (fun _ => ce_51 _ _ _) (ty_51 _) b2 dX5_add_35 ?_
          refine q_aload_n (pc := 36) C dX5_add_36 rfl 0 rfl ?_
          refine q_get (pc := 37) (T := TX5) (v := .ref (gad G 50)) C (by decide) (ce_49 _ _ _) (ci := 5) rfl inlX5 (j := 0) (by decide) rfl tw_49 (Or.inl rfl) dX5_add_37 ?_
          refine q_aload_n (pc := 40) C dX5_add_40 rfl 0 rfl ?_
          refine q_get (pc := 41) (T := TX5) (v := .int (S 49 2)) C (by decide) (ce_49 _ _ _) (ci := 5) rfl inlX5 (j := 2) (by decide) rfl tw_127 (Or.inl rfl) dX5_add_41 ?_
          refine q_iload_n (pc := 44) C dX5_add_44 rfl 1 rfl ?_
          obtain ⟨b3, hm⟩ := oi_some hm
          refine q_iast (pc := 45) C (by decide) (fun _ => ce_50 _ _ _) (ty_50 _) b3 dX5_add_45 ?_
          refine q_aload_n (pc := 46) C dX5_add_46 rfl 0 rfl ?_
          refine q_dup (pc := 47) C dX5_add_47 rfl ?_
          refine q_get (pc := 48) (T := TX5) (v := .int (S 49 2)) C (by decide) (ce_49 _ _ _) (ci := 5) rfl inlX5 (j := 2) (by decide) rfl tw_127 (Or.inl rfl) dX5_add_48 ?_
          refine q_iconst (pc := 51) (v := (1 : Int32)) C dX5_add_51 (by decide) ?_
          refine q_iadd (pc := 52) C dX5_add_52 ?_
          refine q_put (pc := 53) (T := TX5) (ty := .int) C tyX5 tyX5_ok nmX5 (by decide) (ce_49 _ _ _) (pe_49_2 _ _ _ _) (ci := 5) rfl inlX5 (j := 2) (by decide) (Nat.le_of_ble_eq_true rfl) tw_127 (Or.inl rfl) rfl (by decide +kernel) rfl rfl dX5_add_53 ?_
          cases hm
          exact q_vret (pc := 56) C dX5_add_56
        · replace hm := hm_f c4 hm
          cases hm
          exact q_vret (pc := 28) C dX5_add_28
set_option maxRecDepth 100000 in
theorem c_Cou_lowerOnce {G : Gx} (hi : qinj (gad G)) {S : St} {a1 : Int32} {zS : St} (hm : m_Cou_lowerOnce S a1 = some zS) : QMet G yX1_lowerOnce cX1_lowerOnce 2 none 1 21 [.ref (gad G 42), .int a1] S none zS := by
  refine q_entry (by decide +kernel) rfl hi (Nat.le_of_ble_eq_true rfl) ?_
  intro X C
  refine q_lv (lv' := [(0, .ref (gad G 42)), (1, .int a1)]) [0, 1] rfl ?_
  unfold m_Cou_lowerOnce at hm
  refine q_aload_n (pc := 0) C dX1_lowerOnce_0 rfl 0 rfl ?_
  refine q_iload_n (pc := 1) C dX1_lowerOnce_1 rfl 1 rfl ?_
  obtain ⟨r1, h1, hm⟩ := o1_some hm
  refine q_callU (pc := 2) (k := 42) (As := [.int a1]) (rest := []) (T := TX1) (owner := "Tessera$Store") (x := ⟨"Tessera$Counting", "has", "(I)Z"⟩) C (c_St_has_42 hi h1) (by decide) (ce_42 _ _ _) (ci := 1) rfl (Or.inl rfl) tw_365 tw_366 tw_256 tw_367 tw_62 tw_257 (nA := 1) (by decide +kernel) rfl (by decide) (Nat.le_of_ble_eq_true rfl) rfl dX1_lowerOnce_2 ?_
  refine q_if_ne (pc := 5) (tgt := 9) C dX1_lowerOnce_5 (by decide) (fun c1 => ?_) (fun c1 => ?_)
  · replace hm := hm_f c1 hm
    refine q_aload_n (pc := 9) C dX1_lowerOnce_9 rfl 0 rfl ?_
    refine q_get (pc := 10) (T := TX1) (v := .ref (gad G 46)) C (by decide) (ce_42 _ _ _) (ci := 1) rfl inlX1 (j := 11) (by decide) rfl tw_85 (Or.inl rfl) dX1_lowerOnce_10 ?_
    refine q_iload_n (pc := 13) C dX1_lowerOnce_13 rfl 1 rfl ?_
    refine q_dup2 (pc := 14) C dX1_lowerOnce_14 rfl rfl ?_
    obtain ⟨b1, hm⟩ := oi_some hm
    refine q_iald (pc := 15) C (by decide) (ce_46 _ _ _) (ty_46 _) b1 dX1_lowerOnce_15 ?_
    refine q_iconst (pc := 16) (v := (1 : Int32)) C dX1_lowerOnce_16 (by decide) ?_
    refine q_isub (pc := 17) C dX1_lowerOnce_17 ?_
    obtain ⟨b2, hm⟩ := oi_some hm
    refine q_iast (pc := 18) C (by decide) (fun _ => ce_46 _ _ _) (ty_46 _) b2 dX1_lowerOnce_18 ?_
    refine q_aload_n (pc := 19) C dX1_lowerOnce_19 rfl 0 rfl ?_
    refine q_dup (pc := 20) C dX1_lowerOnce_20 rfl ?_
    refine q_get (pc := 21) (T := TX1) (v := .int (S 42 3)) C (by decide) (ce_42 _ _ _) (ci := 1) rfl inlX1 (j := 3) (by decide) rfl tw_350 (Or.inr tw_351) dX1_lowerOnce_21 ?_
    refine q_iconst (pc := 24) (v := (1 : Int32)) C dX1_lowerOnce_24 (by decide) ?_
    refine q_iadd (pc := 25) C dX1_lowerOnce_25 ?_
    refine q_put (pc := 26) (T := TX1) (ty := .int) C tyX1 tyX1_ok nmX1 (by decide) (ce_42 _ _ _) (pe_42_3 _ _ _ _) (ci := 1) rfl inlX1 (j := 3) (by decide) (Nat.le_of_ble_eq_true rfl) tw_350 (Or.inr tw_351) rfl (by decide +kernel) rfl rfl dX1_lowerOnce_26 ?_
    refine q_aload_n (pc := 29) C dX1_lowerOnce_29 rfl 0 rfl ?_
    refine q_get (pc := 30) (T := TX1) (v := .ref (gad G 46)) C (by decide) (ce_42 _ _ _) (ci := 1) rfl inlX1 (j := 11) (by decide) rfl tw_85 (Or.inl rfl) dX1_lowerOnce_30 ?_
    refine q_iload_n (pc := 33) C dX1_lowerOnce_33 rfl 1 rfl ?_
    obtain ⟨b3, hm⟩ := oi_some hm
    refine q_iald (pc := 34) C (by decide) (ce_46 _ _ _) (ty_46 _) b3 dX1_lowerOnce_34 ?_
    refine q_if_le (pc := 35) (tgt := 48) C dX1_lowerOnce_35 (by decide) (fun c2 => ?_) (fun c2 => ?_)
    · replace hm := hm_t c2 hm
      refine q_aload_n (pc := 48) C dX1_lowerOnce_48 rfl 0 rfl ?_
      refine q_iload_n (pc := 49) C dX1_lowerOnce_49 rfl 1 rfl ?_
      obtain ⟨S1, h2, hm⟩ := o1_some hm
      refine q_callU (pc := 50) (k := 42) (As := [.int a1]) (rest := []) (T := TX1) (owner := "Tessera$Store") (x := ⟨"Tessera$Counting", "letGo", "(I)V"⟩) C (c_St_letGo_42 hi h2) (by decide) (ce_42 _ _ _) (ci := 1) rfl (Or.inl rfl) tw_391 tw_392 tw_394 tw_393 tw_62 tw_395 (nA := 1) (by decide +kernel) rfl (by decide) (Nat.le_of_ble_eq_true rfl) rfl dX1_lowerOnce_50 ?_
      refine q_aload_n (pc := 53) C dX1_lowerOnce_53 rfl 0 rfl ?_
      refine q_get (pc := 54) (T := TX1) (v := .ref (gad G 49)) C (by decide) (ce_42 _ _ _) (ci := 1) rfl inlX1 (j := 14) (by decide) rfl tw_89 (Or.inl rfl) dX1_lowerOnce_54 ?_
      refine q_iload_n (pc := 57) C dX1_lowerOnce_57 rfl 1 rfl ?_
      obtain ⟨S2, h3, hm⟩ := o1_some hm
      refine q_callV (pc := 58) (k := 49) (As := [.int a1]) (rest := []) (T := TX5) C (c_Row_add_49 hi h3) (by decide) (ce_49 _ _ _) (ci := 5) rfl tw_368 tw_267 tw_268 tw_43 tw_269 (nA := 1) (by decide +kernel) rfl (by decide) (Nat.le_of_ble_eq_true rfl) rfl dX1_lowerOnce_58 ?_
      cases hm
      exact q_vret (pc := 61) C dX1_lowerOnce_61
    · replace hm := hm_f c2 hm
      refine q_aload_n (pc := 38) C dX1_lowerOnce_38 rfl 0 rfl ?_
      refine q_get (pc := 39) (T := TX1) (v := .ref (gad G 47)) C (by decide) (ce_42 _ _ _) (ci := 1) rfl inlX1 (j := 12) (by decide) rfl tw_86 (Or.inl rfl) dX1_lowerOnce_39 ?_
      refine q_iload_n (pc := 42) C dX1_lowerOnce_42 rfl 1 rfl ?_
      refine q_iconst (pc := 43) (v := (1 : Int32)) C dX1_lowerOnce_43 (by decide) ?_
      obtain ⟨b4, hm⟩ := oi_some hm
      refine q_zast1 (pc := 44) C (by decide) (fun _ => ce_47 _ _ _) (ty_47 _) b4 dX1_lowerOnce_44 ?_
      refine q_goto (pc := 45) (tgt := 61) C dX1_lowerOnce_45 (by decide) ?_
      cases hm
      exact q_vret (pc := 61) C dX1_lowerOnce_61
  · replace hm := hm_t c1 hm
    cases hm
    exact q_vret (pc := 8) C dX1_lowerOnce_8
set_option maxRecDepth 100000 in
theorem c_Row_get_49 {G : Gx} (hi : qinj (gad G)) {S : St} {a1 : Int32} {zr : Int32} (hm : m_Row_get 49 S a1 = some zr) : QMet G yX5_get cX5_get 2 (some .int) 0 0 [.ref (gad G 49), .int a1] S (some (.int zr)) S := by
  refine q_entry (by decide +kernel) rfl hi (Nat.le_of_ble_eq_true rfl) ?_
  intro X C
  refine q_lv (lv' := [(0, .ref (gad G 49)), (1, .int a1)]) [0, 1] rfl ?_
  unfold m_Row_get at hm
  refine q_iload_n (pc := 0) C dX5_get_0 rfl 1 rfl ?_
  refine q_if_lt (pc := 1) (tgt := 21) C dX5_get_1 (by decide) (fun c1 => ?_) (fun c1 => ?_)
  · replace hm := hm_t c1 hm
    refine q_iconst (pc := 21) (v := (-1 : Int32)) C dX5_get_21 (by decide) ?_
    cases hm
    exact q_iret (pc := 22) C dX5_get_22
  · replace hm := hm_f c1 hm
    refine q_iload_n (pc := 4) C dX5_get_4 rfl 1 rfl ?_
    refine q_aload_n (pc := 5) C dX5_get_5 rfl 0 rfl ?_
    refine q_get (pc := 6) (T := TX5) (v := .int (S 49 2)) C (by decide) (ce_49 _ _ _) (ci := 5) rfl inlX5 (j := 2) (by decide) rfl tw_127 (Or.inl rfl) dX5_get_6 ?_
    refine q_icmp_ge (pc := 9) (tgt := 21) C dX5_get_9 (by decide) (fun c2 => ?_) (fun c2 => ?_)
    · replace hm := hm_t c2 hm
      refine q_iconst (pc := 21) (v := (-1 : Int32)) C dX5_get_21 (by decide) ?_
      cases hm
      exact q_iret (pc := 22) C dX5_get_22
    · replace hm := hm_f c2 hm
      refine q_aload_n (pc := 12) C dX5_get_12 rfl 0 rfl ?_
      refine q_get (pc := 13) (T := TX5) (v := .ref (gad G 50)) C (by decide) (ce_49 _ _ _) (ci := 5) rfl inlX5 (j := 0) (by decide) rfl tw_49 (Or.inl rfl) dX5_get_13 ?_
      refine q_iload_n (pc := 16) C dX5_get_16 rfl 1 rfl ?_
      obtain ⟨b1, hm⟩ := oi_some hm
      refine q_iald (pc := 17) C (by decide) (ce_50 _ _ _) (ty_50 _) b1 dX5_get_17 ?_
      refine q_goto (pc := 18) (tgt := 22) C dX5_get_18 (by decide) ?_
      cases hm
      exact q_iret (pc := 22) C dX5_get_22
set_option maxRecDepth 100000 in
theorem w_Cou_lower_L43 {G : Gx} (hi : qinj (gad G)) {X : Cx} (C : QC G X cX1_lower 5 RX1 2 42 none) {Q : State → Prop} : ∀ (n : Nat) (S : St) (v2 : Int32) (v3 : Int32) (v4 : Int32) (zS : St), m_Cou_lower_L43 n S v3 v4 = some zS → QW G X 5 Q 76 [(0, .ref (gad G 42)), (2, .int v2)] [] zS → QW G X 5 Q 43 [(0, .ref (gad G 42)), (2, .int v2), (3, .int v3), (4, .int v4)] [] S := by
  intro n
  induction n with
  | zero =>
    intro S v2 v3 v4 zS hm kk
    rw [m_Cou_lower_L43] at hm
    cases hm
  | succ n ih =>
    intro S v2 v3 v4 zS hm kk
    rw [m_Cou_lower_L43] at hm
    refine q_iload (pc := 43) C dX1_lower_43 3 rfl ?_
    refine q_aload_n (pc := 45) C dX1_lower_45 rfl 0 rfl ?_
    refine q_get (pc := 46) (T := TX1) (v := .ref (gad G 1)) C (by decide) (ce_42 _ _ _) (ci := 1) rfl inlX1 (j := 1) (by decide) rfl tw_311 (Or.inr tw_312) dX1_lower_46 ?_
    refine q_iload_n (pc := 49) C dX1_lower_49 rfl 2 rfl ?_
    obtain ⟨r1, h1, hm⟩ := o1_some hm
    refine q_callV (pc := 50) (k := 1) (As := [.int v3]) (rest := [.int v4]) (T := TX2) C (c_Gr_fieldsOf hi h1) (by decide) (ce_1 _ _ _) (ci := 2) rfl tw_376 tw_279 tw_280 tw_13 tw_281 (nA := 1) (by decide +kernel) rfl (by decide) (Nat.le_of_ble_eq_true rfl) rfl dX1_lower_50 ?_
    refine q_icmp_ge (pc := 53) (tgt := 76) C dX1_lower_53 (by decide) (fun c1 => ?_) (fun c1 => ?_)
    · replace hm := hm_t c1 hm
      cases hm
      refine q_lv (lv' := [(0, .ref (gad G 42)), (2, .int v2)]) [0, 1] rfl ?_
      exact kk
    · replace hm := hm_f c1 hm
      refine q_aload_n (pc := 56) C dX1_lower_56 rfl 0 rfl ?_
      refine q_aload_n (pc := 57) C dX1_lower_57 rfl 0 rfl ?_
      refine q_get (pc := 58) (T := TX1) (v := .ref (gad G 1)) C (by decide) (ce_42 _ _ _) (ci := 1) rfl inlX1 (j := 1) (by decide) rfl tw_311 (Or.inr tw_312) dX1_lower_58 ?_
      refine q_iload_n (pc := 61) C dX1_lower_61 rfl 2 rfl ?_
      refine q_iload (pc := 62) C dX1_lower_62 3 rfl ?_
      obtain ⟨r2, h2, hm⟩ := o1_some hm
      refine q_callV (pc := 64) (k := 1) (As := [.int v3, .int v4]) (rest := [.ref (gad G 42)]) (T := TX2) C (c_Gr_nameOf hi h2) (by decide) (ce_1 _ _ _) (ci := 2) rfl tw_377 tw_283 tw_284 tw_13 tw_285 (nA := 2) (by decide +kernel) rfl (by decide) (Nat.le_of_ble_eq_true rfl) rfl dX1_lower_64 ?_
      obtain ⟨S1, h3, hm⟩ := o1_some hm
      refine q_callV (pc := 67) (k := 42) (As := [.int r2]) (rest := []) (T := TX1) C (c_Cou_lowerOnce hi h3) (by decide) (ce_42 _ _ _) (ci := 1) rfl tw_625 tw_626 tw_627 tw_22 tw_628 (nA := 1) (by decide +kernel) rfl (by decide) (Nat.le_of_ble_eq_true rfl) rfl dX1_lower_67 ?_
      refine q_iinc (pc := 70) (k := 3) (v := (v4 + (1 : Int32))) (lv' := [(4, .int (v4 + (1 : Int32))), (0, .ref (gad G 42)), (2, .int v2), (3, .int v3)]) C dX1_lower_70 rfl rfl (by decide) rfl ?_
      refine q_goto (pc := 73) (tgt := 43) C dX1_lower_73 (by decide) ?_
      refine q_lv (lv' := [(0, .ref (gad G 42)), (2, .int v2), (3, .int v3), (4, .int (v4 + (1 : Int32)))]) [1, 2, 3, 0] rfl ?_
      exact ih _ _ _ _ _ hm kk
set_option maxRecDepth 100000 in
theorem w_Cou_lower_L14 {G : Gx} (hi : qinj (gad G)) {X : Cx} (C : QC G X cX1_lower 5 RX1 2 42 none) {Q : State → Prop} : ∀ (n : Nat) (S : St) (v2 : Int32) (zS : St), m_Cou_lower_L14 n S v2 = some zS → QW G X 5 Q 82 [] [] zS → QW G X 5 Q 14 [(0, .ref (gad G 42)), (2, .int v2)] [] S := by
  intro n
  induction n with
  | zero =>
    intro S v2 zS hm kk
    rw [m_Cou_lower_L14] at hm
    cases hm
  | succ n ih =>
    intro S v2 zS hm kk
    rw [m_Cou_lower_L14] at hm
    refine q_iload_n (pc := 14) C dX1_lower_14 rfl 1 rfl ?_
    refine q_aload_n (pc := 15) C dX1_lower_15 rfl 0 rfl ?_
    refine q_get (pc := 16) (T := TX1) (v := .ref (gad G 49)) C (by decide) (ce_42 _ _ _) (ci := 1) rfl inlX1 (j := 14) (by decide) rfl tw_89 (Or.inl rfl) dX1_lower_16 ?_
    refine q_get (pc := 19) (T := TX5) (v := .int (S 49 2)) C (by decide) (ce_49 _ _ _) (ci := 5) rfl inlX5 (j := 2) (by decide) rfl tw_352 (Or.inl rfl) dX1_lower_19 ?_
    refine q_icmp_ge (pc := 22) (tgt := 82) C dX1_lower_22 (by decide) (fun c1 => ?_) (fun c1 => ?_)
    · replace hm := hm_t c1 hm
      cases hm
      refine q_lv (lv' := []) [] rfl ?_
      exact kk
    · replace hm := hm_f c1 hm
      refine q_iload_n (pc := 25) C dX1_lower_25 rfl 1 rfl ?_
      refine q_bipush (pc := 26) (v := (80 : Int32)) C dX1_lower_26 (by decide) ?_
      refine q_icmp_ge (pc := 28) (tgt := 82) C dX1_lower_28 (by decide) (fun c2 => ?_) (fun c2 => ?_)
      · replace hm := hm_t c2 hm
        cases hm
        refine q_lv (lv' := []) [] rfl ?_
        exact kk
      · replace hm := hm_f c2 hm
        refine q_aload_n (pc := 31) C dX1_lower_31 rfl 0 rfl ?_
        refine q_get (pc := 32) (T := TX1) (v := .ref (gad G 49)) C (by decide) (ce_42 _ _ _) (ci := 1) rfl inlX1 (j := 14) (by decide) rfl tw_89 (Or.inl rfl) dX1_lower_32 ?_
        refine q_iload_n (pc := 35) C dX1_lower_35 rfl 1 rfl ?_
        obtain ⟨r1, h1, hm⟩ := o1_some hm
        refine q_callV (pc := 36) (k := 49) (As := [.int v2]) (rest := []) (T := TX5) C (c_Row_get_49 hi h1) (by decide) (ce_49 _ _ _) (ci := 5) rfl tw_369 tw_271 tw_272 tw_43 tw_273 (nA := 1) (by decide +kernel) rfl (by decide) (Nat.le_of_ble_eq_true rfl) rfl dX1_lower_36 ?_
        refine q_istore_n (pc := 39) (lv' := [(3, .int r1), (0, .ref (gad G 42)), (2, .int v2)]) C dX1_lower_39 rfl (by decide) rfl ?_
        refine q_iconst (pc := 40) (v := (0 : Int32)) C dX1_lower_40 (by decide) ?_
        refine q_istore (pc := 41) (lv' := [(4, .int (0 : Int32)), (3, .int r1), (0, .ref (gad G 42)), (2, .int v2)]) C dX1_lower_41 (by decide) rfl ?_
        refine q_lv (lv' := [(0, .ref (gad G 42)), (2, .int v2), (3, .int r1), (4, .int (0 : Int32))]) [2, 3, 1, 0] rfl ?_
        obtain ⟨S1, h2, hm⟩ := o1_some hm
        refine w_Cou_lower_L43 hi C 200 _ _ _ _ _ h2 ?_
        refine q_iinc (pc := 76) (k := 1) (v := (v2 + (1 : Int32))) (lv' := [(2, .int (v2 + (1 : Int32))), (0, .ref (gad G 42))]) C dX1_lower_76 rfl rfl (by decide) rfl ?_
        refine q_goto (pc := 79) (tgt := 14) C dX1_lower_79 (by decide) ?_
        refine q_lv (lv' := [(0, .ref (gad G 42)), (2, .int (v2 + (1 : Int32)))]) [1, 0] rfl ?_
        exact ih _ _ _ hm kk
set_option maxRecDepth 100000 in
theorem c_Cou_lower {G : Gx} (hi : qinj (gad G)) {S : St} {a1 : Int32} {zS : St} (hm : m_Cou_lower S a1 = some zS) : QMet G yX1_lower cX1_lower 5 none 2 42 [.ref (gad G 42), .int a1] S none zS := by
  refine q_entry (by decide +kernel) rfl hi (Nat.le_of_ble_eq_true rfl) ?_
  intro X C
  refine q_lv (lv' := [(0, .ref (gad G 42)), (1, .int a1)]) [0, 1] rfl ?_
  unfold m_Cou_lower at hm
  refine q_aload_n (pc := 0) C dX1_lower_0 rfl 0 rfl ?_
  refine q_get (pc := 1) (T := TX1) (v := .ref (gad G 49)) C (by decide) (ce_42 _ _ _) (ci := 1) rfl inlX1 (j := 14) (by decide) rfl tw_89 (Or.inl rfl) dX1_lower_1 ?_
  obtain ⟨S1, h1, hm⟩ := o1_some hm
  refine q_callV (pc := 4) (k := 49) (As := []) (rest := []) (T := TX5) C (c_Row_empty_49 hi h1) (by decide) (ce_49 _ _ _) (ci := 5) rfl tw_360 tw_124 tw_125 tw_43 tw_126 (nA := 0) (by decide +kernel) rfl (by decide) (Nat.le_of_ble_eq_true rfl) rfl dX1_lower_4 ?_
  refine q_aload_n (pc := 7) C dX1_lower_7 rfl 0 rfl ?_
  refine q_iload_n (pc := 8) C dX1_lower_8 rfl 1 rfl ?_
  obtain ⟨S2, h2, hm⟩ := o1_some hm
  refine q_callV (pc := 9) (k := 42) (As := [.int a1]) (rest := []) (T := TX1) C (c_Cou_lowerOnce hi h2) (by decide) (ce_42 _ _ _) (ci := 1) rfl tw_625 tw_626 tw_627 tw_22 tw_628 (nA := 1) (by decide +kernel) rfl (by decide) (Nat.le_of_ble_eq_true rfl) rfl dX1_lower_9 ?_
  refine q_iconst (pc := 12) (v := (0 : Int32)) C dX1_lower_12 (by decide) ?_
  refine q_istore_n (pc := 13) (lv' := [(2, .int (0 : Int32)), (0, .ref (gad G 42)), (1, .int a1)]) C dX1_lower_13 rfl (by decide) rfl ?_
  refine q_lv (lv' := [(0, .ref (gad G 42)), (2, .int (0 : Int32))]) [1, 0] rfl ?_
  obtain ⟨S3, h3, hm⟩ := o1_some hm
  refine w_Cou_lower_L14 hi C 200 _ _ _ h3 ?_
  cases hm
  exact q_vret (pc := 82) C dX1_lower_82
set_option maxRecDepth 100000 in
theorem c_Cou_learnNaming {G : Gx} (hi : qinj (gad G)) {S : St} {a1 : Int32} {a2 : Int32} {a3 : Int32} {zS : St} (hm : m_Cou_learnNaming S a1 a2 a3 = some zS) : QMet G yX1_learnNaming cX1_learnNaming 4 none 3 66 [.ref (gad G 42), .int a1, .int a2, .int a3] S none zS := by
  refine q_entry (by decide +kernel) rfl hi (Nat.le_of_ble_eq_true rfl) ?_
  intro X C
  refine q_lv (lv' := [(0, .ref (gad G 42)), (1, .int a1), (2, .int a2), (3, .int a3)]) [0, 1, 2, 3] rfl ?_
  unfold m_Cou_learnNaming at hm
  refine q_aload_n (pc := 0) C dX1_learnNaming_0 rfl 0 rfl ?_
  refine q_iload_n (pc := 1) C dX1_learnNaming_1 rfl 3 rfl ?_
  obtain ⟨r1, h1, hm⟩ := o1_some hm
  refine q_callU (pc := 2) (k := 42) (As := [.int a3]) (rest := []) (T := TX1) (owner := "Tessera$Store") (x := ⟨"Tessera$Counting", "has", "(I)Z"⟩) C (c_St_has_42 hi h1) (by decide) (ce_42 _ _ _) (ci := 1) rfl (Or.inl rfl) tw_365 tw_366 tw_256 tw_367 tw_62 tw_257 (nA := 1) (by decide +kernel) rfl (by decide) (Nat.le_of_ble_eq_true rfl) rfl dX1_learnNaming_2 ?_
  refine q_if_eq (pc := 5) (tgt := 28) C dX1_learnNaming_5 (by decide) (fun c1 => ?_) (fun c1 => ?_)
  · replace hm := hm_t c1 hm
    refine q_aload_n (pc := 28) C dX1_learnNaming_28 rfl 0 rfl ?_
    refine q_iload_n (pc := 29) C dX1_learnNaming_29 rfl 2 rfl ?_
    obtain ⟨r2, h2, hm⟩ := o1_some hm
    refine q_callU (pc := 30) (k := 42) (As := [.int a2]) (rest := []) (T := TX1) (owner := "Tessera$Store") (x := ⟨"Tessera$Counting", "has", "(I)Z"⟩) C (c_St_has_42 hi h2) (by decide) (ce_42 _ _ _) (ci := 1) rfl (Or.inl rfl) tw_365 tw_366 tw_256 tw_367 tw_62 tw_257 (nA := 1) (by decide +kernel) rfl (by decide) (Nat.le_of_ble_eq_true rfl) rfl dX1_learnNaming_30 ?_
    refine q_if_eq (pc := 33) (tgt := 41) C dX1_learnNaming_33 (by decide) (fun c2 => ?_) (fun c2 => ?_)
    · replace hm := hm_t c2 hm
      cases hm
      exact q_vret (pc := 41) C dX1_learnNaming_41
    · replace hm := hm_f c2 hm
      refine q_aload_n (pc := 36) C dX1_learnNaming_36 rfl 0 rfl ?_
      refine q_iload_n (pc := 37) C dX1_learnNaming_37 rfl 2 rfl ?_
      obtain ⟨S1, h3, hm⟩ := o1_some hm
      refine q_callV (pc := 38) (k := 42) (As := [.int a2]) (rest := []) (T := TX1) C (c_Cou_lower hi h3) (by decide) (ce_42 _ _ _) (ci := 1) rfl tw_621 tw_622 tw_623 tw_22 tw_624 (nA := 1) (by decide +kernel) rfl (by decide) (Nat.le_of_ble_eq_true rfl) rfl dX1_learnNaming_38 ?_
      cases hm
      exact q_vret (pc := 41) C dX1_learnNaming_41
  · replace hm := hm_f c1 hm
    refine q_aload_n (pc := 8) C dX1_learnNaming_8 rfl 0 rfl ?_
    refine q_get (pc := 9) (T := TX1) (v := .ref (gad G 46)) C (by decide) (ce_42 _ _ _) (ci := 1) rfl inlX1 (j := 11) (by decide) rfl tw_85 (Or.inl rfl) dX1_learnNaming_9 ?_
    refine q_iload_n (pc := 12) C dX1_learnNaming_12 rfl 3 rfl ?_
    refine q_dup2 (pc := 13) C dX1_learnNaming_13 rfl rfl ?_
    obtain ⟨b1, hm⟩ := oi_some hm
    refine q_iald (pc := 14) C (by decide) (ce_46 _ _ _) (ty_46 _) b1 dX1_learnNaming_14 ?_
    refine q_iconst (pc := 15) (v := (1 : Int32)) C dX1_learnNaming_15 (by decide) ?_
    refine q_iadd (pc := 16) C dX1_learnNaming_16 ?_
    obtain ⟨b2, hm⟩ := oi_some hm
    refine q_iast (pc := 17) C (by decide) (fun _ => ce_46 _ _ _) (ty_46 _) b2 dX1_learnNaming_17 ?_
    refine q_aload_n (pc := 18) C dX1_learnNaming_18 rfl 0 rfl ?_
    refine q_dup (pc := 19) C dX1_learnNaming_19 rfl ?_
    refine q_get (pc := 20) (T := TX1) (v := .int (S 42 3)) C (by decide) (ce_42 _ _ _) (ci := 1) rfl inlX1 (j := 3) (by decide) rfl tw_350 (Or.inr tw_351) dX1_learnNaming_20 ?_
    refine q_iconst (pc := 23) (v := (1 : Int32)) C dX1_learnNaming_23 (by decide) ?_
    refine q_iadd (pc := 24) C dX1_learnNaming_24 ?_
    refine q_put (pc := 25) (T := TX1) (ty := .int) C tyX1 tyX1_ok nmX1 (by decide) (ce_42 _ _ _) (pe_42_3 _ _ _ _) (ci := 1) rfl inlX1 (j := 3) (by decide) (Nat.le_of_ble_eq_true rfl) tw_350 (Or.inr tw_351) rfl (by decide +kernel) rfl rfl dX1_learnNaming_25 ?_
    refine q_aload_n (pc := 28) C dX1_learnNaming_28 rfl 0 rfl ?_
    refine q_iload_n (pc := 29) C dX1_learnNaming_29 rfl 2 rfl ?_
    obtain ⟨r3, h4, hm⟩ := o1_some hm
    refine q_callU (pc := 30) (k := 42) (As := [.int a2]) (rest := []) (T := TX1) (owner := "Tessera$Store") (x := ⟨"Tessera$Counting", "has", "(I)Z"⟩) C (c_St_has_42 hi h4) (by decide) (ce_42 _ _ _) (ci := 1) rfl (Or.inl rfl) tw_365 tw_366 tw_256 tw_367 tw_62 tw_257 (nA := 1) (by decide +kernel) rfl (by decide) (Nat.le_of_ble_eq_true rfl) rfl dX1_learnNaming_30 ?_
    refine q_if_eq (pc := 33) (tgt := 41) C dX1_learnNaming_33 (by decide) (fun c3 => ?_) (fun c3 => ?_)
    · replace hm := hm_t c3 hm
      cases hm
      exact q_vret (pc := 41) C dX1_learnNaming_41
    · replace hm := hm_f c3 hm
      refine q_aload_n (pc := 36) C dX1_learnNaming_36 rfl 0 rfl ?_
      refine q_iload_n (pc := 37) C dX1_learnNaming_37 rfl 2 rfl ?_
      obtain ⟨S2, h5, hm⟩ := o1_some hm
      refine q_callV (pc := 38) (k := 42) (As := [.int a2]) (rest := []) (T := TX1) C (c_Cou_lower hi h5) (by decide) (ce_42 _ _ _) (ci := 1) rfl tw_621 tw_622 tw_623 tw_22 tw_624 (nA := 1) (by decide +kernel) rfl (by decide) (Nat.le_of_ble_eq_true rfl) rfl dX1_learnNaming_38 ?_
      cases hm
      exact q_vret (pc := 41) C dX1_learnNaming_41
set_option maxRecDepth 100000 in
theorem c_St_has_31 {G : Gx} (hi : qinj (gad G)) {S : St} {a1 : Int32} {zr : Int32} (hm : m_St_has 31 1 S a1 = some zr) : QMet G yX7_has cX7_has 2 (some .boolean) 0 0 [.ref (gad G 31), .int a1] S (some (.int zr)) S := by
  refine q_entry (by decide +kernel) rfl hi (Nat.le_of_ble_eq_true rfl) ?_
  intro X C
  refine q_lv (lv' := [(0, .ref (gad G 31)), (1, .int a1)]) [0, 1] rfl ?_
  unfold m_St_has at hm
  refine q_iload_n (pc := 0) C dX7_has_0 rfl 1 rfl ?_
  refine q_if_lt (pc := 1) (tgt := 23) C dX7_has_1 (by decide) (fun c1 => ?_) (fun c1 => ?_)
  · replace hm := hm_t c1 hm
    refine q_iconst (pc := 23) (v := (0 : Int32)) C dX7_has_23 (by decide) ?_
    cases hm
    exact q_zret (pc := 24) C (by decide) dX7_has_24
  · replace hm := hm_f c1 hm
    refine q_iload_n (pc := 4) C dX7_has_4 rfl 1 rfl ?_
    refine q_bipush (pc := 5) (v := (80 : Int32)) C dX7_has_5 (by decide) ?_
    refine q_icmp_ge (pc := 7) (tgt := 23) C dX7_has_7 (by decide) (fun c2 => ?_) (fun c2 => ?_)
    · replace hm := hm_t c2 hm
      refine q_iconst (pc := 23) (v := (0 : Int32)) C dX7_has_23 (by decide) ?_
      cases hm
      exact q_zret (pc := 24) C (by decide) dX7_has_24
    · replace hm := hm_f c2 hm
      refine q_aload_n (pc := 10) C dX7_has_10 rfl 0 rfl ?_
      refine q_get (pc := 11) (T := TX3) (v := .ref (gad G 32)) C (by decide) (ce_31 _ _ _) (ci := 3) rfl inlX3 (j := 8) (by decide) rfl tw_65 (Or.inl rfl) dX7_has_11 ?_
      refine q_iload_n (pc := 14) C dX7_has_14 rfl 1 rfl ?_
      obtain ⟨b1, hm⟩ := oi_some hm
      refine q_zald (pc := 15) C (by decide) (ce_32 _ _ _) (ty_32 _) b1 dX7_has_15 ?_
      refine q_if_eq (pc := 16) (tgt := 23) C dX7_has_16 (by decide) (fun c3 => ?_) (fun c3 => ?_)
      · replace hm := hm_t c3 hm
        refine q_iconst (pc := 23) (v := (0 : Int32)) C dX7_has_23 (by decide) ?_
        cases hm
        exact q_zret (pc := 24) C (by decide) dX7_has_24
      · replace hm := hm_f c3 hm
        refine q_iconst (pc := 19) (v := (1 : Int32)) C dX7_has_19 (by decide) ?_
        refine q_goto (pc := 20) (tgt := 24) C dX7_has_20 (by decide) ?_
        cases hm
        exact q_zret (pc := 24) C (by decide) dX7_has_24
set_option maxRecDepth 100000 in
theorem c_Mar_colourOf {G : Gx} (hi : qinj (gad G)) {S : St} {a1 : Int32} {zr : Int32} (hm : m_Mar_colourOf S a1 = some zr) : QMet G yX3_colourOf cX3_colourOf 2 (some .int) 1 21 [.ref (gad G 31), .int a1] S (some (.int zr)) S := by
  refine q_entry (by decide +kernel) rfl hi (Nat.le_of_ble_eq_true rfl) ?_
  intro X C
  refine q_lv (lv' := [(0, .ref (gad G 31)), (1, .int a1)]) [0, 1] rfl ?_
  unfold m_Mar_colourOf at hm
  refine q_aload_n (pc := 0) C dX3_colourOf_0 rfl 0 rfl ?_
  refine q_iload_n (pc := 1) C dX3_colourOf_1 rfl 1 rfl ?_
  obtain ⟨r1, h1, hm⟩ := o1_some hm
  refine q_callU (pc := 2) (k := 31) (As := [.int a1]) (rest := []) (T := TX3) (owner := "Tessera$Store") (x := ⟨"Tessera$Marking", "has", "(I)Z"⟩) C (c_St_has_31 hi h1) (by decide) (ce_31 _ _ _) (ci := 3) rfl (Or.inl rfl) tw_435 tw_436 tw_256 tw_437 tw_62 tw_257 (nA := 1) (by decide +kernel) rfl (by decide) (Nat.le_of_ble_eq_true rfl) rfl dX3_colourOf_2 ?_
  refine q_if_eq (pc := 5) (tgt := 28) C dX3_colourOf_5 (by decide) (fun c1 => ?_) (fun c1 => ?_)
  · replace hm := hm_t c1 hm
    refine q_iconst (pc := 28) (v := (-1 : Int32)) C dX3_colourOf_28 (by decide) ?_
    cases hm
    exact q_iret (pc := 29) C dX3_colourOf_29
  · replace hm := hm_f c1 hm
    refine q_aload_n (pc := 8) C dX3_colourOf_8 rfl 0 rfl ?_
    refine q_get (pc := 9) (T := TX3) (v := .ref (gad G 1)) C (by decide) (ce_31 _ _ _) (ci := 3) rfl inlX3 (j := 1) (by decide) rfl tw_421 (Or.inr tw_422) dX3_colourOf_9 ?_
    refine q_iload_n (pc := 12) C dX3_colourOf_12 rfl 1 rfl ?_
    obtain ⟨r2, h2, hm⟩ := o1_some hm
    refine q_callV (pc := 13) (k := 1) (As := [.int a1]) (rest := []) (T := TX2) C (c_Gr_isThing hi h2) (by decide) (ce_1 _ _ _) (ci := 2) rfl tw_438 tw_300 tw_301 tw_13 tw_302 (nA := 1) (by decide +kernel) rfl (by decide) (Nat.le_of_ble_eq_true rfl) rfl dX3_colourOf_13 ?_
    refine q_if_eq (pc := 16) (tgt := 28) C dX3_colourOf_16 (by decide) (fun c2 => ?_) (fun c2 => ?_)
    · replace hm := hm_t c2 hm
      refine q_iconst (pc := 28) (v := (-1 : Int32)) C dX3_colourOf_28 (by decide) ?_
      cases hm
      exact q_iret (pc := 29) C dX3_colourOf_29
    · replace hm := hm_f c2 hm
      refine q_aload_n (pc := 19) C dX3_colourOf_19 rfl 0 rfl ?_
      refine q_get (pc := 20) (T := TX3) (v := .ref (gad G 35)) C (by decide) (ce_31 _ _ _) (ci := 3) rfl inlX3 (j := 11) (by decide) rfl tw_72 (Or.inl rfl) dX3_colourOf_20 ?_
      refine q_iload_n (pc := 23) C dX3_colourOf_23 rfl 1 rfl ?_
      obtain ⟨b1, hm⟩ := oi_some hm
      refine q_iald (pc := 24) C (by decide) (ce_35 _ _ _) (ty_35 _) b1 dX3_colourOf_24 ?_
      refine q_goto (pc := 25) (tgt := 29) C dX3_colourOf_25 (by decide) ?_
      cases hm
      exact q_iret (pc := 29) C dX3_colourOf_29
set_option maxRecDepth 100000 in
theorem c_Mar_paint {G : Gx} (hi : qinj (gad G)) {S : St} {a1 : Int32} {a2 : Int32} {zS : St} (hm : m_Mar_paint S a1 a2 = some zS) : QMet G yX3_paint cX3_paint 3 none 1 21 [.ref (gad G 31), .int a1, .int a2] S none zS := by
  refine q_entry (by decide +kernel) rfl hi (Nat.le_of_ble_eq_true rfl) ?_
  intro X C
  refine q_lv (lv' := [(0, .ref (gad G 31)), (1, .int a1), (2, .int a2)]) [0, 1, 2] rfl ?_
  unfold m_Mar_paint at hm
  refine q_aload_n (pc := 0) C dX3_paint_0 rfl 0 rfl ?_
  refine q_get (pc := 1) (T := TX3) (v := .ref (gad G 1)) C (by decide) (ce_31 _ _ _) (ci := 3) rfl inlX3 (j := 1) (by decide) rfl tw_421 (Or.inr tw_422) dX3_paint_1 ?_
  refine q_iload_n (pc := 4) C dX3_paint_4 rfl 1 rfl ?_
  obtain ⟨r1, h1, hm⟩ := o1_some hm
  refine q_callV (pc := 5) (k := 1) (As := [.int a1]) (rest := []) (T := TX2) C (c_Gr_isThing hi h1) (by decide) (ce_1 _ _ _) (ci := 2) rfl tw_438 tw_300 tw_301 tw_13 tw_302 (nA := 1) (by decide +kernel) rfl (by decide) (Nat.le_of_ble_eq_true rfl) rfl dX3_paint_5 ?_
  refine q_if_eq (pc := 8) (tgt := 18) C dX3_paint_8 (by decide) (fun c1 => ?_) (fun c1 => ?_)
  · replace hm := hm_t c1 hm
    cases hm
    exact q_vret (pc := 18) C dX3_paint_18
  · replace hm := hm_f c1 hm
    refine q_aload_n (pc := 11) C dX3_paint_11 rfl 0 rfl ?_
    refine q_get (pc := 12) (T := TX3) (v := .ref (gad G 35)) C (by decide) (ce_31 _ _ _) (ci := 3) rfl inlX3 (j := 11) (by decide) rfl tw_72 (Or.inl rfl) dX3_paint_12 ?_
    refine q_iload_n (pc := 15) C dX3_paint_15 rfl 1 rfl ?_
    refine q_iload_n (pc := 16) C dX3_paint_16 rfl 2 rfl ?_
    obtain ⟨b1, hm⟩ := oi_some hm
    refine q_iast (pc := 17) C (by decide) (fun _ => ce_35 _ _ _) (ty_35 _) b1 dX3_paint_17 ?_
    cases hm
    exact q_vret (pc := 18) C dX3_paint_18
set_option maxRecDepth 100000 in
theorem c_Row_add_36 {G : Gx} (hi : qinj (gad G)) {S : St} {a1 : Int32} {zS : St} (hm : m_Row_add 36 S a1 = some zS) : QMet G yX5_add cX5_add 2 none 0 0 [.ref (gad G 36), .int a1] S none zS := by
  refine q_entry (by decide +kernel) rfl hi (Nat.le_of_ble_eq_true rfl) ?_
  intro X C
  refine q_lv (lv' := [(0, .ref (gad G 36)), (1, .int a1)]) [0, 1] rfl ?_
  unfold m_Row_add at hm
  refine q_iload_n (pc := 0) C dX5_add_0 rfl 1 rfl ?_
  refine q_if_lt (pc := 1) (tgt := 28) C dX5_add_1 (by decide) (fun c1 => ?_) (fun c1 => ?_)
  · replace hm := hm_t c1 hm
    cases hm
    exact q_vret (pc := 28) C dX5_add_28
  · replace hm := hm_f c1 hm
    refine q_iload_n (pc := 4) C dX5_add_4 rfl 1 rfl ?_
    refine q_bipush (pc := 5) (v := (80 : Int32)) C dX5_add_5 (by decide) ?_
    refine q_icmp_ge (pc := 7) (tgt := 28) C dX5_add_7 (by decide) (fun c2 => ?_) (fun c2 => ?_)
    · replace hm := hm_t c2 hm
      cases hm
      exact q_vret (pc := 28) C dX5_add_28
    · replace hm := hm_f c2 hm
      refine q_aload_n (pc := 10) C dX5_add_10 rfl 0 rfl ?_
      refine q_get (pc := 11) (T := TX5) (v := .ref (gad G 38)) C (by decide) (ce_36 _ _ _) (ci := 5) rfl inlX5 (j := 1) (by decide) rfl tw_50 (Or.inl rfl) dX5_add_11 ?_
      refine q_iload_n (pc := 14) C dX5_add_14 rfl 1 rfl ?_
      obtain ⟨b1, hm⟩ := oi_some hm
      refine q_zald (pc := 15) C (by decide) (ce_38 _ _ _) (ty_38 _) b1 dX5_add_15 ?_
      refine q_if_ne (pc := 16) (tgt := 28) C dX5_add_16 (by decide) (fun c3 => ?_) (fun c3 => ?_)
      · replace hm := hm_f c3 hm
        cases hm
        exact q_vret (pc := 28) C dX5_add_28
      · replace hm := hm_t c3 hm
        refine q_aload_n (pc := 19) C dX5_add_19 rfl 0 rfl ?_
        refine q_get (pc := 20) (T := TX5) (v := .int (S 36 2)) C (by decide) (ce_36 _ _ _) (ci := 5) rfl inlX5 (j := 2) (by decide) rfl tw_127 (Or.inl rfl) dX5_add_20 ?_
        refine q_bipush (pc := 23) (v := (80 : Int32)) C dX5_add_23 (by decide) ?_
        refine q_icmp_lt (pc := 25) (tgt := 29) C dX5_add_25 (by decide) (fun c4 => ?_) (fun c4 => ?_)
        · replace hm := hm_t c4 hm
          refine q_aload_n (pc := 29) C dX5_add_29 rfl 0 rfl ?_
          refine q_get (pc := 30) (T := TX5) (v := .ref (gad G 38)) C (by decide) (ce_36 _ _ _) (ci := 5) rfl inlX5 (j := 1) (by decide) rfl tw_50 (Or.inl rfl) dX5_add_30 ?_
          refine q_iload_n (pc := 33) C dX5_add_33 rfl 1 rfl ?_
          refine q_iconst (pc := 34) (v := (1 : Int32)) C dX5_add_34 (by decide) ?_
          obtain ⟨b2, hm⟩ := oi_some hm
          refine q_zast1 (pc := 35) C (by decide) (fun _ => ce_38 _ _ _) (ty_38 _) b2 dX5_add_35 ?_
          refine q_aload_n (pc := 36) C dX5_add_36 rfl 0 rfl ?_
          refine q_get (pc := 37) (T := TX5) (v := .ref (gad G 37)) C (by decide) (ce_36 _ _ _) (ci := 5) rfl inlX5 (j := 0) (by decide) rfl tw_49 (Or.inl rfl) dX5_add_37 ?_
          refine q_aload_n (pc := 40) C dX5_add_40 rfl 0 rfl ?_
          refine q_get (pc := 41) (T := TX5) (v := .int (S 36 2)) C (by decide) (ce_36 _ _ _) (ci := 5) rfl inlX5 (j := 2) (by decide) rfl tw_127 (Or.inl rfl) dX5_add_41 ?_
          refine q_iload_n (pc := 44) C dX5_add_44 rfl 1 rfl ?_
          obtain ⟨b3, hm⟩ := oi_some hm
          refine q_iast (pc := 45) C (by decide) (fun _ => ce_37 _ _ _) (ty_37 _) b3 dX5_add_45 ?_
          refine q_aload_n (pc := 46) C dX5_add_46 rfl 0 rfl ?_
          refine q_dup (pc := 47) C dX5_add_47 rfl ?_
          refine q_get (pc := 48) (T := TX5) (v := .int (S 36 2)) C (by decide) (ce_36 _ _ _) (ci := 5) rfl inlX5 (j := 2) (by decide) rfl tw_127 (Or.inl rfl) dX5_add_48 ?_
          refine q_iconst (pc := 51) (v := (1 : Int32)) C dX5_add_51 (by decide) ?_
          refine q_iadd (pc := 52) C dX5_add_52 ?_
          refine q_put (pc := 53) (T := TX5) (ty := .int) C tyX5 tyX5_ok nmX5 (by decide) (ce_36 _ _ _) (pe_36_2 _ _ _ _) (ci := 5) rfl inlX5 (j := 2) (by decide) (Nat.le_of_ble_eq_true rfl) tw_127 (Or.inl rfl) rfl (by decide +kernel) rfl rfl dX5_add_53 ?_
          cases hm
          exact q_vret (pc := 56) C dX5_add_56
        · replace hm := hm_f c4 hm
          cases hm
          exact q_vret (pc := 28) C dX5_add_28
set_option maxRecDepth 100000 in
theorem c_Mar_becomeGrey {G : Gx} (hi : qinj (gad G)) {S : St} {a1 : Int32} {zS : St} (hm : m_Mar_becomeGrey S a1 = some zS) : QMet G yX3_becomeGrey cX3_becomeGrey 2 none 2 43 [.ref (gad G 31), .int a1] S none zS := by
  refine q_entry (by decide +kernel) rfl hi (Nat.le_of_ble_eq_true rfl) ?_
  intro X C
  refine q_lv (lv' := [(0, .ref (gad G 31)), (1, .int a1)]) [0, 1] rfl ?_
  unfold m_Mar_becomeGrey at hm
  refine q_aload_n (pc := 0) C dX3_becomeGrey_0 rfl 0 rfl ?_
  refine q_iload_n (pc := 1) C dX3_becomeGrey_1 rfl 1 rfl ?_
  obtain ⟨r1, h1, hm⟩ := o1_some hm
  refine q_callV (pc := 2) (k := 31) (As := [.int a1]) (rest := []) (T := TX3) C (c_Mar_colourOf hi h1) (by decide) (ce_31 _ _ _) (ci := 3) rfl tw_431 tw_432 tw_433 tw_19 tw_434 (nA := 1) (by decide +kernel) rfl (by decide) (Nat.le_of_ble_eq_true rfl) rfl dX3_becomeGrey_2 ?_
  refine q_if_ne (pc := 5) (tgt := 22) C dX3_becomeGrey_5 (by decide) (fun c1 => ?_) (fun c1 => ?_)
  · replace hm := hm_f c1 hm
    cases hm
    exact q_vret (pc := 22) C dX3_becomeGrey_22
  · replace hm := hm_t c1 hm
    refine q_aload_n (pc := 8) C dX3_becomeGrey_8 rfl 0 rfl ?_
    refine q_iload_n (pc := 9) C dX3_becomeGrey_9 rfl 1 rfl ?_
    refine q_iconst (pc := 10) (v := (1 : Int32)) C dX3_becomeGrey_10 (by decide) ?_
    obtain ⟨S1, h2, hm⟩ := o1_some hm
    refine q_callV (pc := 11) (k := 31) (As := [.int a1, .int (1 : Int32)]) (rest := []) (T := TX3) C (c_Mar_paint hi h2) (by decide) (ce_31 _ _ _) (ci := 3) rfl tw_439 tw_440 tw_441 tw_19 tw_442 (nA := 2) (by decide +kernel) rfl (by decide) (Nat.le_of_ble_eq_true rfl) rfl dX3_becomeGrey_11 ?_
    refine q_aload_n (pc := 14) C dX3_becomeGrey_14 rfl 0 rfl ?_
    refine q_get (pc := 15) (T := TX3) (v := .ref (gad G 36)) C (by decide) (ce_31 _ _ _) (ci := 3) rfl inlX3 (j := 12) (by decide) rfl tw_74 (Or.inl rfl) dX3_becomeGrey_15 ?_
    refine q_iload_n (pc := 18) C dX3_becomeGrey_18 rfl 1 rfl ?_
    obtain ⟨S2, h3, hm⟩ := o1_some hm
    refine q_callV (pc := 19) (k := 36) (As := [.int a1]) (rest := []) (T := TX5) C (c_Row_add_36 hi h3) (by decide) (ce_36 _ _ _) (ci := 5) rfl tw_443 tw_267 tw_268 tw_43 tw_269 (nA := 1) (by decide +kernel) rfl (by decide) (Nat.le_of_ble_eq_true rfl) rfl dX3_becomeGrey_19 ?_
    cases hm
    exact q_vret (pc := 22) C dX3_becomeGrey_22
set_option maxRecDepth 100000 in
theorem c_Mar_learnNaming {G : Gx} (hi : qinj (gad G)) {S : St} {a1 : Int32} {a2 : Int32} {a3 : Int32} {zS : St} (hm : m_Mar_learnNaming S a1 a2 a3 = some zS) : QMet G yX3_learnNaming cX3_learnNaming 4 none 3 64 [.ref (gad G 31), .int a1, .int a2, .int a3] S none zS := by
  refine q_entry (by decide +kernel) rfl hi (Nat.le_of_ble_eq_true rfl) ?_
  intro X C
  refine q_lv (lv' := [(0, .ref (gad G 31)), (1, .int a1), (2, .int a2), (3, .int a3)]) [0, 1, 2, 3] rfl ?_
  unfold m_Mar_learnNaming at hm
  refine q_aload_n (pc := 0) C dX3_learnNaming_0 rfl 0 rfl ?_
  refine q_get (pc := 1) (T := TX3) (v := .int (S 31 10)) C (by decide) (ce_31 _ _ _) (ci := 3) rfl inlX3 (j := 10) (by decide) rfl tw_159 (Or.inl rfl) dX3_learnNaming_1 ?_
  refine q_if_eq (pc := 4) (tgt := 26) C dX3_learnNaming_4 (by decide) (fun c1 => ?_) (fun c1 => ?_)
  · replace hm := hm_t c1 hm
    cases hm
    exact q_vret (pc := 26) C dX3_learnNaming_26
  · replace hm := hm_f c1 hm
    refine q_iload_n (pc := 7) C dX3_learnNaming_7 rfl 1 rfl ?_
    refine q_iconst (pc := 8) (v := (-1 : Int32)) C dX3_learnNaming_8 (by decide) ?_
    refine q_icmp_eq (pc := 9) (tgt := 21) C dX3_learnNaming_9 (by decide) (fun c2 => ?_) (fun c2 => ?_)
    · replace hm := hm_t c2 hm
      refine q_aload_n (pc := 21) C dX3_learnNaming_21 rfl 0 rfl ?_
      refine q_iload_n (pc := 22) C dX3_learnNaming_22 rfl 3 rfl ?_
      obtain ⟨S1, h1, hm⟩ := o1_some hm
      refine q_callV (pc := 23) (k := 31) (As := [.int a3]) (rest := []) (T := TX3) C (c_Mar_becomeGrey hi h1) (by decide) (ce_31 _ _ _) (ci := 3) rfl tw_427 tw_428 tw_429 tw_19 tw_430 (nA := 1) (by decide +kernel) rfl (by decide) (Nat.le_of_ble_eq_true rfl) rfl dX3_learnNaming_23 ?_
      cases hm
      exact q_vret (pc := 26) C dX3_learnNaming_26
    · replace hm := hm_f c2 hm
      refine q_aload_n (pc := 12) C dX3_learnNaming_12 rfl 0 rfl ?_
      refine q_iload_n (pc := 13) C dX3_learnNaming_13 rfl 1 rfl ?_
      obtain ⟨r1, h2, hm⟩ := o1_some hm
      refine q_callV (pc := 14) (k := 31) (As := [.int a1]) (rest := []) (T := TX3) C (c_Mar_colourOf hi h2) (by decide) (ce_31 _ _ _) (ci := 3) rfl tw_431 tw_432 tw_433 tw_19 tw_434 (nA := 1) (by decide +kernel) rfl (by decide) (Nat.le_of_ble_eq_true rfl) rfl dX3_learnNaming_14 ?_
      refine q_iconst (pc := 17) (v := (2 : Int32)) C dX3_learnNaming_17 (by decide) ?_
      refine q_icmp_ne (pc := 18) (tgt := 26) C dX3_learnNaming_18 (by decide) (fun c3 => ?_) (fun c3 => ?_)
      · replace hm := hm_f c3 hm
        cases hm
        exact q_vret (pc := 26) C dX3_learnNaming_26
      · replace hm := hm_t c3 hm
        refine q_aload_n (pc := 21) C dX3_learnNaming_21 rfl 0 rfl ?_
        refine q_iload_n (pc := 22) C dX3_learnNaming_22 rfl 3 rfl ?_
        obtain ⟨S2, h3, hm⟩ := o1_some hm
        refine q_callV (pc := 23) (k := 31) (As := [.int a3]) (rest := []) (T := TX3) C (c_Mar_becomeGrey hi h3) (by decide) (ce_31 _ _ _) (ci := 3) rfl tw_427 tw_428 tw_429 tw_19 tw_430 (nA := 1) (by decide +kernel) rfl (by decide) (Nat.le_of_ble_eq_true rfl) rfl dX3_learnNaming_23 ?_
        cases hm
        exact q_vret (pc := 26) C dX3_learnNaming_26
set_option maxRecDepth 100000 in
theorem c_St_learnNaming_Nur_18 {G : Gx} (hi : qinj (gad G)) {S : St} {a1 : Int32} {a2 : Int32} {a3 : Int32} {zu : Unit} (hm : m_St_learnNaming_Nur S a1 a2 a3 = some zu) : QMet G yX7_learnNaming cX7_learnNaming 4 none 0 0 [.ref (gad G 18), .int a1, .int a2, .int a3] S none S := by
  refine q_entry (by decide +kernel) rfl hi (Nat.le_of_ble_eq_true rfl) ?_
  intro X C
  refine q_lv (lv' := [(0, .ref (gad G 18)), (1, .int a1), (2, .int a2), (3, .int a3)]) [0, 1, 2, 3] rfl ?_
  unfold m_St_learnNaming_Nur at hm
  cases hm
  exact q_vret (pc := 0) C dX7_learnNaming_0
