set_option maxRecDepth 100000 in
theorem w_Mar_foresee_L12 {G : Gx} (hi : qinj (gad G)) {X : Cx} (C : QC G X cX3_foresee 4 RX3 3 63 none) {Q : State → Prop} : ∀ (n : Nat) (S : St) (v1 : Int32) (S9 : St), m_Mar_foresee_L12 n S v1 = some S9 → QW G X 4 Q 51 [(0, .ref (gad G 31))] [] S9 → QW G X 4 Q 12 [(0, .ref (gad G 31)), (1, .int v1)] [] S := by
  intro n
  induction n with
  | zero =>
    intro S v1 S9 hm kk
    rw [m_Mar_foresee_L12] at hm
    cases hm
  | succ n ih =>
    intro S v1 S9 hm kk
    rw [m_Mar_foresee_L12] at hm
    refine q_aload_n (pc := 12) C dX3_foresee_12 rfl 0 rfl ?_
    refine q_get (pc := 13) (T := TX3) (v := .int (S 31 10)) C (by decide) (ce_31 _ _ _) (ci := 3) rfl inlX3 (j := 10) (by decide) rfl tw_159 (Or.inl rfl) dX3_foresee_13 ?_
    refine q_if_eq (pc := 16) (tgt := 51) C dX3_foresee_16 (by decide) (fun c1 => ?_) (fun c1 => ?_)
    · replace hm := hm_t c1 hm
      cases hm
      refine q_lv (lv' := [(0, .ref (gad G 31))]) [0] rfl ?_
      exact kk
    · replace hm := hm_f c1 hm
      refine q_iload_n (pc := 19) C dX3_foresee_19 rfl 1 rfl ?_
      refine q_aload_n (pc := 20) C dX3_foresee_20 rfl 0 rfl ?_
      refine q_get (pc := 21) (T := TX3) (v := .ref (gad G 36)) C (by decide) (ce_31 _ _ _) (ci := 3) rfl inlX3 (j := 12) (by decide) rfl tw_74 (Or.inl rfl) dX3_foresee_21 ?_
      refine q_get (pc := 24) (T := TX5) (v := .int (S 36 2)) C (by decide) (ce_36 _ _ _) (ci := 5) rfl inlX5 (j := 2) (by decide) rfl tw_448 (Or.inl rfl) dX3_foresee_24 ?_
      refine q_icmp_ge (pc := 27) (tgt := 51) C dX3_foresee_27 (by decide) (fun c2 => ?_) (fun c2 => ?_)
      · replace hm := hm_t c2 hm
        cases hm
        refine q_lv (lv' := [(0, .ref (gad G 31))]) [0] rfl ?_
        exact kk
      · replace hm := hm_f c2 hm
        refine q_aload_n (pc := 30) C dX3_foresee_30 rfl 0 rfl ?_
        refine q_get (pc := 31) (T := TX3) (v := .ref (gad G 39)) C (by decide) (ce_31 _ _ _) (ci := 3) rfl inlX3 (j := 13) (by decide) rfl tw_75 (Or.inl rfl) dX3_foresee_31 ?_
        refine q_aload_n (pc := 34) C dX3_foresee_34 rfl 0 rfl ?_
        refine q_get (pc := 35) (T := TX3) (v := .ref (gad G 36)) C (by decide) (ce_31 _ _ _) (ci := 3) rfl inlX3 (j := 12) (by decide) rfl tw_74 (Or.inl rfl) dX3_foresee_35 ?_
        refine q_iload_n (pc := 38) C dX3_foresee_38 rfl 1 rfl ?_
        obtain ⟨r1, h1, hm⟩ := o1_some hm
        refine q_callV (pc := 39) (k := 36) (As := [.int v1]) (rest := [.ref (gad G 39)]) (T := TX5) C (c_Row_get_36 hi h1) (by decide) (ce_36 _ _ _) (ci := 5) rfl tw_464 tw_271 tw_272 tw_43 tw_273 (by decide +kernel) (by decide) (by decide) rfl dX3_foresee_39 ?_
        obtain ⟨S1, h2, hm⟩ := o1_some hm
        refine q_callV (pc := 42) (k := 39) (As := [.int r1]) (rest := []) (T := TX5) C (c_Row_add_39 hi h2) (by decide) (ce_39 _ _ _) (ci := 5) rfl tw_443 tw_267 tw_268 tw_43 tw_269 (by decide +kernel) (by decide) (by decide) rfl dX3_foresee_42 ?_
        refine q_iinc (pc := 45) (k := 1) (v := (v1 + (1 : Int32))) (lv' := [(1, .int (v1 + (1 : Int32))), (0, .ref (gad G 31))]) C dX3_foresee_45 rfl rfl (by decide) rfl ?_
        refine q_goto (pc := 48) (tgt := 12) C dX3_foresee_48 (by decide) ?_
        refine q_lv (lv' := [(0, .ref (gad G 31)), (1, .int (v1 + (1 : Int32)))]) [1, 0] rfl ?_
        exact ih _ _ _ hm kk
set_option maxRecDepth 100000 in
theorem w_Mar_foresee_L53 {G : Gx} (hi : qinj (gad G)) {X : Cx} (C : QC G X cX3_foresee 4 RX3 3 63 none) {Q : State → Prop} : ∀ (n : Nat) (S : St) (v1 : Int32) (S9 : St), m_Mar_foresee_L53 n S v1 = some S9 → QW G X 4 Q 84 [(0, .ref (gad G 31))] [] S9 → QW G X 4 Q 53 [(0, .ref (gad G 31)), (1, .int v1)] [] S := by
  intro n
  induction n with
  | zero =>
    intro S v1 S9 hm kk
    rw [m_Mar_foresee_L53] at hm
    cases hm
  | succ n ih =>
    intro S v1 S9 hm kk
    rw [m_Mar_foresee_L53] at hm
    refine q_aload_n (pc := 53) C dX3_foresee_53 rfl 0 rfl ?_
    refine q_get (pc := 54) (T := TX3) (v := .int (S 31 10)) C (by decide) (ce_31 _ _ _) (ci := 3) rfl inlX3 (j := 10) (by decide) rfl tw_159 (Or.inl rfl) dX3_foresee_54 ?_
    refine q_if_ne (pc := 57) (tgt := 84) C dX3_foresee_57 (by decide) (fun c1 => ?_) (fun c1 => ?_)
    · replace hm := hm_f c1 hm
      cases hm
      refine q_lv (lv' := [(0, .ref (gad G 31))]) [0] rfl ?_
      exact kk
    · replace hm := hm_t c1 hm
      refine q_iload_n (pc := 60) C dX3_foresee_60 rfl 1 rfl ?_
      refine q_bipush (pc := 61) (v := (6 : Int32)) C dX3_foresee_61 (by decide) ?_
      refine q_icmp_ge (pc := 63) (tgt := 84) C dX3_foresee_63 (by decide) (fun c2 => ?_) (fun c2 => ?_)
      · replace hm := hm_t c2 hm
        cases hm
        refine q_lv (lv' := [(0, .ref (gad G 31))]) [0] rfl ?_
        exact kk
      · replace hm := hm_f c2 hm
        refine q_aload_n (pc := 66) C dX3_foresee_66 rfl 0 rfl ?_
        refine q_aload_n (pc := 67) C dX3_foresee_67 rfl 0 rfl ?_
        refine q_get (pc := 68) (T := TX3) (v := .ref (gad G 1)) C (by decide) (ce_31 _ _ _) (ci := 3) rfl inlX3 (j := 1) (by decide) rfl tw_421 (Or.inr tw_422) dX3_foresee_68 ?_
        refine q_iload_n (pc := 71) C dX3_foresee_71 rfl 1 rfl ?_
        obtain ⟨r1, h1, hm⟩ := o1_some hm
        refine q_callV (pc := 72) (k := 1) (As := [.int v1]) (rest := [.ref (gad G 31)]) (T := TX2) C (c_Gr_rootAt hi h1) (by decide) (ce_1 _ _ _) (ci := 2) rfl tw_423 tw_424 tw_425 tw_13 tw_426 (by decide +kernel) (by decide) (by decide) rfl dX3_foresee_72 ?_
        obtain ⟨S1, h2, hm⟩ := o1_some hm
        refine q_callV (pc := 75) (k := 31) (As := [.int r1]) (rest := []) (T := TX3) C (c_Mar_foreseeIfWhite hi h2) (by decide) (ce_31 _ _ _) (ci := 3) rfl tw_820 tw_821 tw_822 tw_19 tw_823 (by decide +kernel) (by decide) (by decide) rfl dX3_foresee_75 ?_
        refine q_iinc (pc := 78) (k := 1) (v := (v1 + (1 : Int32))) (lv' := [(1, .int (v1 + (1 : Int32))), (0, .ref (gad G 31))]) C dX3_foresee_78 rfl rfl (by decide) rfl ?_
        refine q_goto (pc := 81) (tgt := 53) C dX3_foresee_81 (by decide) ?_
        refine q_lv (lv' := [(0, .ref (gad G 31)), (1, .int (v1 + (1 : Int32)))]) [1, 0] rfl ?_
        exact ih _ _ _ hm kk
set_option maxRecDepth 100000 in
theorem w_Mar_foresee_L114 {G : Gx} (hi : qinj (gad G)) {X : Cx} (C : QC G X cX3_foresee 4 RX3 3 63 none) {Q : State → Prop} : ∀ (n : Nat) (S : St) (v1 : Int32) (v2 : Int32) (v3 : Int32) (S9 : St), m_Mar_foresee_L114 n S v2 v3 = some S9 → QW G X 4 Q 145 [(0, .ref (gad G 31)), (1, .int v1)] [] S9 → QW G X 4 Q 114 [(0, .ref (gad G 31)), (1, .int v1), (2, .int v2), (3, .int v3)] [] S := by
  intro n
  induction n with
  | zero =>
    intro S v1 v2 v3 S9 hm kk
    rw [m_Mar_foresee_L114] at hm
    cases hm
  | succ n ih =>
    intro S v1 v2 v3 S9 hm kk
    rw [m_Mar_foresee_L114] at hm
    refine q_iload_n (pc := 114) C dX3_foresee_114 rfl 3 rfl ?_
    refine q_aload_n (pc := 115) C dX3_foresee_115 rfl 0 rfl ?_
    refine q_get (pc := 116) (T := TX3) (v := .ref (gad G 1)) C (by decide) (ce_31 _ _ _) (ci := 3) rfl inlX3 (j := 1) (by decide) rfl tw_421 (Or.inr tw_422) dX3_foresee_116 ?_
    refine q_iload_n (pc := 119) C dX3_foresee_119 rfl 2 rfl ?_
    obtain ⟨r1, h1, hm⟩ := o1_some hm
    refine q_callV (pc := 120) (k := 1) (As := [.int v2]) (rest := [.int v3]) (T := TX2) C (c_Gr_fieldsOf hi h1) (by decide) (ce_1 _ _ _) (ci := 2) rfl tw_465 tw_279 tw_280 tw_13 tw_281 (by decide +kernel) (by decide) (by decide) rfl dX3_foresee_120 ?_
    refine q_icmp_ge (pc := 123) (tgt := 145) C dX3_foresee_123 (by decide) (fun c1 => ?_) (fun c1 => ?_)
    · replace hm := hm_t c1 hm
      cases hm
      refine q_lv (lv' := [(0, .ref (gad G 31)), (1, .int v1)]) [0, 1] rfl ?_
      exact kk
    · replace hm := hm_f c1 hm
      refine q_aload_n (pc := 126) C dX3_foresee_126 rfl 0 rfl ?_
      refine q_aload_n (pc := 127) C dX3_foresee_127 rfl 0 rfl ?_
      refine q_get (pc := 128) (T := TX3) (v := .ref (gad G 1)) C (by decide) (ce_31 _ _ _) (ci := 3) rfl inlX3 (j := 1) (by decide) rfl tw_421 (Or.inr tw_422) dX3_foresee_128 ?_
      refine q_iload_n (pc := 131) C dX3_foresee_131 rfl 2 rfl ?_
      refine q_iload_n (pc := 132) C dX3_foresee_132 rfl 3 rfl ?_
      obtain ⟨r2, h2, hm⟩ := o1_some hm
      refine q_callV (pc := 133) (k := 1) (As := [.int v2, .int v3]) (rest := [.ref (gad G 31)]) (T := TX2) C (c_Gr_nameOf hi h2) (by decide) (ce_1 _ _ _) (ci := 2) rfl tw_466 tw_283 tw_284 tw_13 tw_285 (by decide +kernel) (by decide) (by decide) rfl dX3_foresee_133 ?_
      obtain ⟨S1, h3, hm⟩ := o1_some hm
      refine q_callV (pc := 136) (k := 31) (As := [.int r2]) (rest := []) (T := TX3) C (c_Mar_foreseeIfWhite hi h3) (by decide) (ce_31 _ _ _) (ci := 3) rfl tw_820 tw_821 tw_822 tw_19 tw_823 (by decide +kernel) (by decide) (by decide) rfl dX3_foresee_136 ?_
      refine q_iinc (pc := 139) (k := 3) (v := (v3 + (1 : Int32))) (lv' := [(3, .int (v3 + (1 : Int32))), (0, .ref (gad G 31)), (1, .int v1), (2, .int v2)]) C dX3_foresee_139 rfl rfl (by decide) rfl ?_
      refine q_goto (pc := 142) (tgt := 114) C dX3_foresee_142 (by decide) ?_
      refine q_lv (lv' := [(0, .ref (gad G 31)), (1, .int v1), (2, .int v2), (3, .int (v3 + (1 : Int32)))]) [1, 2, 3, 0] rfl ?_
      exact ih _ _ _ _ _ hm kk
set_option maxRecDepth 100000 in
theorem w_Mar_foresee_L86 {G : Gx} (hi : qinj (gad G)) {X : Cx} (C : QC G X cX3_foresee 4 RX3 3 63 none) {Q : State → Prop} : ∀ (n : Nat) (S : St) (v1 : Int32) (S9 : St), m_Mar_foresee_L86 n S v1 = some S9 → QW G X 4 Q 151 [] [] S9 → QW G X 4 Q 86 [(0, .ref (gad G 31)), (1, .int v1)] [] S := by
  intro n
  induction n with
  | zero =>
    intro S v1 S9 hm kk
    rw [m_Mar_foresee_L86] at hm
    cases hm
  | succ n ih =>
    intro S v1 S9 hm kk
    rw [m_Mar_foresee_L86] at hm
    refine q_iload_n (pc := 86) C dX3_foresee_86 rfl 1 rfl ?_
    refine q_aload_n (pc := 87) C dX3_foresee_87 rfl 0 rfl ?_
    refine q_get (pc := 88) (T := TX3) (v := .ref (gad G 39)) C (by decide) (ce_31 _ _ _) (ci := 3) rfl inlX3 (j := 13) (by decide) rfl tw_75 (Or.inl rfl) dX3_foresee_88 ?_
    refine q_get (pc := 91) (T := TX5) (v := .int (S 39 2)) C (by decide) (ce_39 _ _ _) (ci := 5) rfl inlX5 (j := 2) (by decide) rfl tw_448 (Or.inl rfl) dX3_foresee_91 ?_
    refine q_icmp_ge (pc := 94) (tgt := 151) C dX3_foresee_94 (by decide) (fun c1 => ?_) (fun c1 => ?_)
    · replace hm := hm_t c1 hm
      cases hm
      refine q_lv (lv' := []) [] rfl ?_
      exact kk
    · replace hm := hm_f c1 hm
      refine q_iload_n (pc := 97) C dX3_foresee_97 rfl 1 rfl ?_
      refine q_bipush (pc := 98) (v := (80 : Int32)) C dX3_foresee_98 (by decide) ?_
      refine q_icmp_ge (pc := 100) (tgt := 151) C dX3_foresee_100 (by decide) (fun c2 => ?_) (fun c2 => ?_)
      · replace hm := hm_t c2 hm
        cases hm
        refine q_lv (lv' := []) [] rfl ?_
        exact kk
      · replace hm := hm_f c2 hm
        refine q_aload_n (pc := 103) C dX3_foresee_103 rfl 0 rfl ?_
        refine q_get (pc := 104) (T := TX3) (v := .ref (gad G 39)) C (by decide) (ce_31 _ _ _) (ci := 3) rfl inlX3 (j := 13) (by decide) rfl tw_75 (Or.inl rfl) dX3_foresee_104 ?_
        refine q_iload_n (pc := 107) C dX3_foresee_107 rfl 1 rfl ?_
        obtain ⟨r1, h1, hm⟩ := o1_some hm
        refine q_callV (pc := 108) (k := 39) (As := [.int v1]) (rest := []) (T := TX5) C (c_Row_get_39 hi h1) (by decide) (ce_39 _ _ _) (ci := 5) rfl tw_464 tw_271 tw_272 tw_43 tw_273 (by decide +kernel) (by decide) (by decide) rfl dX3_foresee_108 ?_
        refine q_istore_n (pc := 111) (lv' := [(2, .int r1), (0, .ref (gad G 31)), (1, .int v1)]) C dX3_foresee_111 rfl (by decide) rfl ?_
        refine q_iconst (pc := 112) (v := (0 : Int32)) C dX3_foresee_112 (by decide) ?_
        refine q_istore_n (pc := 113) (lv' := [(3, .int (0 : Int32)), (2, .int r1), (0, .ref (gad G 31)), (1, .int v1)]) C dX3_foresee_113 rfl (by decide) rfl ?_
        refine q_lv (lv' := [(0, .ref (gad G 31)), (1, .int v1), (2, .int r1), (3, .int (0 : Int32))]) [2, 3, 1, 0] rfl ?_
        obtain ⟨S1, h2, hm⟩ := o1_some hm
        refine w_Mar_foresee_L114 hi C 200 _ _ _ _ _ h2 ?_
        refine q_iinc (pc := 145) (k := 1) (v := (v1 + (1 : Int32))) (lv' := [(1, .int (v1 + (1 : Int32))), (0, .ref (gad G 31))]) C dX3_foresee_145 rfl rfl (by decide) rfl ?_
        refine q_goto (pc := 148) (tgt := 86) C dX3_foresee_148 (by decide) ?_
        refine q_lv (lv' := [(0, .ref (gad G 31)), (1, .int (v1 + (1 : Int32)))]) [1, 0] rfl ?_
        exact ih _ _ _ hm kk
set_option maxRecDepth 100000 in
theorem c_Mar_foresee {G : Gx} (hi : qinj (gad G)) {S : St}  {S9 : St} (hm : m_Mar_foresee S  = some S9) : QMet G yX3_foresee cX3_foresee 4 none 3 63 [.ref (gad G 31)] S none S9 := by
  refine q_entry (by decide +kernel) rfl hi (by decide) ?_
  intro X C
  refine q_lv (lv' := [(0, .ref (gad G 31))]) [0] rfl ?_
  unfold m_Mar_foresee at hm
  refine q_aload_n (pc := 0) C dX3_foresee_0 rfl 0 rfl ?_
  refine q_get (pc := 1) (T := TX3) (v := .ref (gad G 39)) C (by decide) (ce_31 _ _ _) (ci := 3) rfl inlX3 (j := 13) (by decide) rfl tw_75 (Or.inl rfl) dX3_foresee_1 ?_
  obtain ⟨S1, h1, hm⟩ := o1_some hm
  refine q_callV (pc := 4) (k := 39) (As := []) (rest := []) (T := TX5) C (c_Row_empty_39 hi h1) (by decide) (ce_39 _ _ _) (ci := 5) rfl tw_161 tw_124 tw_125 tw_43 tw_126 (by decide +kernel) (by decide) (by decide) rfl dX3_foresee_4 ?_
  refine q_aload_n (pc := 7) C dX3_foresee_7 rfl 0 rfl ?_
  refine q_get (pc := 8) (T := TX3) (v := .int (S1 31 14)) C (by decide) (ce_31 _ _ _) (ci := 3) rfl inlX3 (j := 14) (by decide) rfl tw_160 (Or.inl rfl) dX3_foresee_8 ?_
  refine q_istore_n (pc := 11) (lv' := [(1, .int (S1 31 14)), (0, .ref (gad G 31))]) C dX3_foresee_11 rfl (by decide) rfl ?_
  refine q_lv (lv' := [(0, .ref (gad G 31)), (1, .int (S1 31 14))]) [1, 0] rfl ?_
  obtain ⟨S2, h2, hm⟩ := o1_some hm
  refine w_Mar_foresee_L12 hi C 200 _ _ _ h2 ?_
  refine q_iconst (pc := 51) (v := (0 : Int32)) C dX3_foresee_51 (by decide) ?_
  refine q_istore_n (pc := 52) (lv' := [(1, .int (0 : Int32)), (0, .ref (gad G 31))]) C dX3_foresee_52 rfl (by decide) rfl ?_
  refine q_lv (lv' := [(0, .ref (gad G 31)), (1, .int (0 : Int32))]) [1, 0] rfl ?_
  obtain ⟨S3, h3, hm⟩ := o1_some hm
  refine w_Mar_foresee_L53 hi C 200 _ _ _ h3 ?_
  refine q_iconst (pc := 84) (v := (0 : Int32)) C dX3_foresee_84 (by decide) ?_
  refine q_istore_n (pc := 85) (lv' := [(1, .int (0 : Int32)), (0, .ref (gad G 31))]) C dX3_foresee_85 rfl (by decide) rfl ?_
  refine q_lv (lv' := [(0, .ref (gad G 31)), (1, .int (0 : Int32))]) [1, 0] rfl ?_
  obtain ⟨S4, h4, hm⟩ := o1_some hm
  refine w_Mar_foresee_L86 hi C 200 _ _ _ h4 ?_
  cases hm
  exact q_vret (pc := 151) C dX3_foresee_151
set_option maxRecDepth 100000 in
theorem c_Row_holds_39 {G : Gx} (hi : qinj (gad G)) {S : St} {a1 : Int32} {r9 : Int32} (hm : m_Row_holds 39 S a1 = some r9) : QMet G yX5_holds cX5_holds 2 (some .boolean) 0 0 [.ref (gad G 39), .int a1] S (some (.int r9)) S := by
  refine q_entry (by decide +kernel) rfl hi (by decide) ?_
  intro X C
  refine q_lv (lv' := [(0, .ref (gad G 39)), (1, .int a1)]) [0, 1] rfl ?_
  unfold m_Row_holds at hm
  refine q_iload_n (pc := 0) C dX5_holds_0 rfl 1 rfl ?_
  refine q_if_lt (pc := 1) (tgt := 23) C dX5_holds_1 (by decide) (fun c1 => ?_) (fun c1 => ?_)
  · replace hm := hm_t c1 hm
    refine q_iconst (pc := 23) (v := (0 : Int32)) C dX5_holds_23 (by decide) ?_
    cases hm
    exact q_zret (pc := 24) C (by decide) dX5_holds_24
  · replace hm := hm_f c1 hm
    refine q_iload_n (pc := 4) C dX5_holds_4 rfl 1 rfl ?_
    refine q_bipush (pc := 5) (v := (80 : Int32)) C dX5_holds_5 (by decide) ?_
    refine q_icmp_ge (pc := 7) (tgt := 23) C dX5_holds_7 (by decide) (fun c2 => ?_) (fun c2 => ?_)
    · replace hm := hm_t c2 hm
      refine q_iconst (pc := 23) (v := (0 : Int32)) C dX5_holds_23 (by decide) ?_
      cases hm
      exact q_zret (pc := 24) C (by decide) dX5_holds_24
    · replace hm := hm_f c2 hm
      refine q_aload_n (pc := 10) C dX5_holds_10 rfl 0 rfl ?_
      refine q_get (pc := 11) (T := TX5) (v := .ref (gad G 41)) C (by decide) (ce_39 _ _ _) (ci := 5) rfl inlX5 (j := 1) (by decide) rfl tw_50 (Or.inl rfl) dX5_holds_11 ?_
      refine q_iload_n (pc := 14) C dX5_holds_14 rfl 1 rfl ?_
      obtain ⟨b1, hm⟩ := oi_some hm
      refine q_zald (pc := 15) C (by decide) (ce_41 _ _ _) (ty_41 _) b1 dX5_holds_15 ?_
      refine q_if_eq (pc := 16) (tgt := 23) C dX5_holds_16 (by decide) (fun c3 => ?_) (fun c3 => ?_)
      · replace hm := hm_t c3 hm
        refine q_iconst (pc := 23) (v := (0 : Int32)) C dX5_holds_23 (by decide) ?_
        cases hm
        exact q_zret (pc := 24) C (by decide) dX5_holds_24
      · replace hm := hm_f c3 hm
        refine q_iconst (pc := 19) (v := (1 : Int32)) C dX5_holds_19 (by decide) ?_
        refine q_goto (pc := 20) (tgt := 24) C dX5_holds_20 (by decide) ?_
        cases hm
        exact q_zret (pc := 24) C (by decide) dX5_holds_24
set_option maxRecDepth 100000 in
theorem w_Mar_countToGo_L8 {G : Gx} (hi : qinj (gad G)) {X : Cx} (C : QC G X cX3_countToGo 3 RX3 4 86 (some .int)) {Q : State → Prop} : ∀ (n : Nat) (S : St) (v1 : Int32) (v2 : Int32) (x1 : Int32), m_Mar_countToGo_L8 n S v1 v2 = some x1 → QW G X 3 Q 52 [(1, .int x1)] [] S → QW G X 3 Q 8 [(0, .ref (gad G 31)), (1, .int v1), (2, .int v2)] [] S := by
  intro n
  induction n with
  | zero =>
    intro S v1 v2 x1 hm kk
    rw [m_Mar_countToGo_L8] at hm
    cases hm
  | succ n ih =>
    intro S v1 v2 x1 hm kk
    rw [m_Mar_countToGo_L8] at hm
    refine q_iload_n (pc := 8) C dX3_countToGo_8 rfl 2 rfl ?_
    refine q_aload_n (pc := 9) C dX3_countToGo_9 rfl 0 rfl ?_
    refine q_get (pc := 10) (T := TX3) (v := .ref (gad G 1)) C (by decide) (ce_31 _ _ _) (ci := 3) rfl inlX3 (j := 1) (by decide) rfl tw_421 (Or.inr tw_422) dX3_countToGo_10 ?_
    refine q_get (pc := 13) (T := TX2) (v := .int (S 1 6)) C (by decide) (ce_1 _ _ _) (ci := 2) rfl inlX2 (j := 6) (by decide) rfl tw_455 (Or.inl rfl) dX3_countToGo_13 ?_
    refine q_icmp_ge (pc := 16) (tgt := 52) C dX3_countToGo_16 (by decide) (fun c1 => ?_) (fun c1 => ?_)
    · replace hm := hm_t c1 hm
      cases hm
      refine q_lv (lv' := [(1, .int v1)]) [1] rfl ?_
      exact kk
    · replace hm := hm_f c1 hm
      refine q_iload_n (pc := 19) C dX3_countToGo_19 rfl 1 rfl ?_
      refine q_aload_n (pc := 20) C dX3_countToGo_20 rfl 0 rfl ?_
      refine q_iload_n (pc := 21) C dX3_countToGo_21 rfl 2 rfl ?_
      obtain ⟨r1, h1, hm⟩ := o1_some hm
      refine q_callV (pc := 22) (k := 31) (As := [.int v2]) (rest := [.int v1]) (T := TX3) C (c_Mar_colourOf hi h1) (by decide) (ce_31 _ _ _) (ci := 3) rfl tw_431 tw_432 tw_433 tw_19 tw_434 (by decide +kernel) (by decide) (by decide) rfl dX3_countToGo_22 ?_
      refine q_if_ne (pc := 25) (tgt := 43) C dX3_countToGo_25 (by decide) (fun c2 => ?_) (fun c2 => ?_)
      · replace hm := hm_f c2 hm
        refine q_iconst (pc := 43) (v := (0 : Int32)) C dX3_countToGo_43 (by decide) ?_
        refine q_iadd (pc := 44) C dX3_countToGo_44 ?_
        refine q_istore_n (pc := 45) (lv' := [(1, .int (v1 + (0 : Int32))), (0, .ref (gad G 31)), (2, .int v2)]) C dX3_countToGo_45 rfl (by decide) rfl ?_
        refine q_iinc (pc := 46) (k := 2) (v := (v2 + (1 : Int32))) (lv' := [(2, .int (v2 + (1 : Int32))), (1, .int (v1 + (0 : Int32))), (0, .ref (gad G 31))]) C dX3_countToGo_46 rfl rfl (by decide) rfl ?_
        refine q_goto (pc := 49) (tgt := 8) C dX3_countToGo_49 (by decide) ?_
        refine q_lv (lv' := [(0, .ref (gad G 31)), (1, .int (v1 + (0 : Int32))), (2, .int (v2 + (1 : Int32)))]) [2, 1, 0] rfl ?_
        exact ih _ _ _ _ hm kk
      · replace hm := hm_t c2 hm
        refine q_aload_n (pc := 28) C dX3_countToGo_28 rfl 0 rfl ?_
        refine q_get (pc := 29) (T := TX3) (v := .ref (gad G 39)) C (by decide) (ce_31 _ _ _) (ci := 3) rfl inlX3 (j := 13) (by decide) rfl tw_75 (Or.inl rfl) dX3_countToGo_29 ?_
        refine q_iload_n (pc := 32) C dX3_countToGo_32 rfl 2 rfl ?_
        obtain ⟨r2, h2, hm⟩ := o1_some hm
        refine q_callV (pc := 33) (k := 39) (As := [.int v2]) (rest := [.int v1]) (T := TX5) C (c_Row_holds_39 hi h2) (by decide) (ce_39 _ _ _) (ci := 5) rfl tw_824 tw_384 tw_385 tw_43 tw_386 (by decide +kernel) (by decide) (by decide) rfl dX3_countToGo_33 ?_
        refine q_if_ne (pc := 36) (tgt := 43) C dX3_countToGo_36 (by decide) (fun c3 => ?_) (fun c3 => ?_)
        · replace hm := hm_f c3 hm
          refine q_iconst (pc := 43) (v := (0 : Int32)) C dX3_countToGo_43 (by decide) ?_
          refine q_iadd (pc := 44) C dX3_countToGo_44 ?_
          refine q_istore_n (pc := 45) (lv' := [(1, .int (v1 + (0 : Int32))), (0, .ref (gad G 31)), (2, .int v2)]) C dX3_countToGo_45 rfl (by decide) rfl ?_
          refine q_iinc (pc := 46) (k := 2) (v := (v2 + (1 : Int32))) (lv' := [(2, .int (v2 + (1 : Int32))), (1, .int (v1 + (0 : Int32))), (0, .ref (gad G 31))]) C dX3_countToGo_46 rfl rfl (by decide) rfl ?_
          refine q_goto (pc := 49) (tgt := 8) C dX3_countToGo_49 (by decide) ?_
          refine q_lv (lv' := [(0, .ref (gad G 31)), (1, .int (v1 + (0 : Int32))), (2, .int (v2 + (1 : Int32)))]) [2, 1, 0] rfl ?_
          exact ih _ _ _ _ hm kk
        · replace hm := hm_t c3 hm
          refine q_iconst (pc := 39) (v := (1 : Int32)) C dX3_countToGo_39 (by decide) ?_
          refine q_goto (pc := 40) (tgt := 44) C dX3_countToGo_40 (by decide) ?_
          refine q_iadd (pc := 44) C dX3_countToGo_44 ?_
          refine q_istore_n (pc := 45) (lv' := [(1, .int (v1 + (1 : Int32))), (0, .ref (gad G 31)), (2, .int v2)]) C dX3_countToGo_45 rfl (by decide) rfl ?_
          refine q_iinc (pc := 46) (k := 2) (v := (v2 + (1 : Int32))) (lv' := [(2, .int (v2 + (1 : Int32))), (1, .int (v1 + (1 : Int32))), (0, .ref (gad G 31))]) C dX3_countToGo_46 rfl rfl (by decide) rfl ?_
          refine q_goto (pc := 49) (tgt := 8) C dX3_countToGo_49 (by decide) ?_
          refine q_lv (lv' := [(0, .ref (gad G 31)), (1, .int (v1 + (1 : Int32))), (2, .int (v2 + (1 : Int32)))]) [2, 1, 0] rfl ?_
          exact ih _ _ _ _ hm kk
set_option maxRecDepth 100000 in
theorem c_Mar_countToGo {G : Gx} (hi : qinj (gad G)) {S : St}  {r9 : Int32} {S9 : St} (hm : m_Mar_countToGo S  = some (r9, S9)) : QMet G yX3_countToGo cX3_countToGo 3 (some .int) 4 86 [.ref (gad G 31)] S (some (.int r9)) S9 := by
  refine q_entry (by decide +kernel) rfl hi (by decide) ?_
  intro X C
  refine q_lv (lv' := [(0, .ref (gad G 31))]) [0] rfl ?_
  unfold m_Mar_countToGo at hm
  refine q_aload_n (pc := 0) C dX3_countToGo_0 rfl 0 rfl ?_
  obtain ⟨S1, h1, hm⟩ := o1_some hm
  refine q_callV (pc := 1) (k := 31) (As := []) (rest := []) (T := TX3) C (c_Mar_foresee hi h1) (by decide) (ce_31 _ _ _) (ci := 3) rfl tw_816 tw_817 tw_818 tw_19 tw_819 (by decide +kernel) (by decide) (by decide) rfl dX3_countToGo_1 ?_
  refine q_iconst (pc := 4) (v := (0 : Int32)) C dX3_countToGo_4 (by decide) ?_
  refine q_istore_n (pc := 5) (lv' := [(1, .int (0 : Int32)), (0, .ref (gad G 31))]) C dX3_countToGo_5 rfl (by decide) rfl ?_
  refine q_iconst (pc := 6) (v := (0 : Int32)) C dX3_countToGo_6 (by decide) ?_
  refine q_istore_n (pc := 7) (lv' := [(2, .int (0 : Int32)), (1, .int (0 : Int32)), (0, .ref (gad G 31))]) C dX3_countToGo_7 rfl (by decide) rfl ?_
  refine q_lv (lv' := [(0, .ref (gad G 31)), (1, .int (0 : Int32)), (2, .int (0 : Int32))]) [2, 1, 0] rfl ?_
  obtain ⟨y1, h2, hm⟩ := o1_some hm
  refine w_Mar_countToGo_L8 hi C 200 _ _ _ _ h2 ?_
  refine q_iload_n (pc := 52) C dX3_countToGo_52 rfl 0 rfl ?_
  cases hm
  exact q_iret (pc := 53) C dX3_countToGo_53
set_option maxRecDepth 100000 in
theorem c_Cou_countToGo {G : Gx} (hi : qinj (gad G)) {S : St}  {r9 : Int32} {S9 : St} (hm : m_Cou_countToGo S  = some (r9, S9)) : QMet G yX1_countToGo cX1_countToGo 1 (some .int) 4 88 [.ref (gad G 42)] S (some (.int r9)) S9 := by
  refine q_entry (by decide +kernel) rfl hi (by decide) ?_
  intro X C
  refine q_lv (lv' := [(0, .ref (gad G 42))]) [0] rfl ?_
  unfold m_Cou_countToGo at hm
  refine q_aload_n (pc := 0) C dX1_countToGo_0 rfl 0 rfl ?_
  obtain ⟨S1, h1, hm⟩ := o1_some hm
  refine q_callV (pc := 1) (k := 42) (As := []) (rest := []) (T := TX1) C (c_Cou_findRings hi h1) (by decide) (ce_42 _ _ _) (ci := 1) rfl tw_355 tw_356 tw_357 tw_22 tw_358 (by decide +kernel) (by decide) (by decide) rfl dX1_countToGo_1 ?_
  refine q_aload_n (pc := 4) C dX1_countToGo_4 rfl 0 rfl ?_
  refine q_get (pc := 5) (T := TX1) (v := .ref (gad G 52)) C (by decide) (ce_42 _ _ _) (ci := 1) rfl inlX1 (j := 15) (by decide) rfl tw_90 (Or.inl rfl) dX1_countToGo_5 ?_
  refine q_get (pc := 8) (T := TX5) (v := .int (S1 52 2)) C (by decide) (ce_52 _ _ _) (ci := 5) rfl inlX5 (j := 2) (by decide) rfl tw_352 (Or.inl rfl) dX1_countToGo_8 ?_
  refine q_aload_n (pc := 11) C dX1_countToGo_11 rfl 0 rfl ?_
  refine q_get (pc := 12) (T := TX1) (v := .ref (gad G 55)) C (by decide) (ce_42 _ _ _) (ci := 1) rfl inlX1 (j := 16) (by decide) rfl tw_91 (Or.inl rfl) dX1_countToGo_12 ?_
  refine q_get (pc := 15) (T := TX5) (v := .int (S1 55 2)) C (by decide) (ce_55 _ _ _) (ci := 5) rfl inlX5 (j := 2) (by decide) rfl tw_352 (Or.inl rfl) dX1_countToGo_15 ?_
  refine q_isub (pc := 18) C dX1_countToGo_18 ?_
  cases hm
  exact q_iret (pc := 19) C dX1_countToGo_19
set_option maxRecDepth 100000 in
theorem c_Te_wouldGo {G : Gx} (hi : qinj (gad G)) {S : St} {a1 : Int32} {r9 : Int32} {S9 : St} (hm : m_Te_wouldGo S a1 = some (r9, S9)) : QMet G yX8_wouldGo cX8_wouldGo 3 (some .int) 5 108 [.ref (gad G 0), .int a1] S (some (.int r9)) S9 := by
  refine q_entry (by decide +kernel) rfl hi (by decide) ?_
  intro X C
  refine q_lv (lv' := [(0, .ref (gad G 0)), (1, .int a1)]) [0, 1] rfl ?_
  unfold m_Te_wouldGo at hm
  refine q_aload_n (pc := 0) C dX8_wouldGo_0 rfl 0 rfl ?_
  refine q_iload_n (pc := 1) C dX8_wouldGo_1 rfl 1 rfl ?_
  obtain ⟨k1, h1, hm⟩ := o1_some hm
  refine q_callV (pc := 2) (k := 0) (As := [.int a1]) (rest := []) (T := TX8) C (c_Te_storeOf hi h1) (by decide) (ce_0 _ _ _) (ci := 6) rfl tw_716 tw_717 tw_718 tw_2 tw_719 (by decide +kernel) (by decide) (by decide) rfl dX8_wouldGo_2 ?_
  by_cases c5 : k1 = 12
  · replace hm := hm_t c5 hm
    subst c5
    refine q_astore_n (pc := 5) (lv' := [(2, .ref (gad G 12)), (0, .ref (gad G 0)), (1, .int a1)]) C dX8_wouldGo_5 rfl (by decide) rfl ?_
    refine q_aload_n (pc := 6) C dX8_wouldGo_6 rfl 0 rfl ?_
    refine q_get (pc := 7) (T := TX0) (v := .int (S 12 5)) C (by decide) (ce_12 _ _ _) (ci := 0) rfl inlX0 (j := 5) (by decide) rfl tw_199 (Or.inl rfl) dX8_wouldGo_7 ?_
    refine q_if_eq (pc := 10) (tgt := 17) C dX8_wouldGo_10 (by decide) (fun c1 => ?_) (fun c1 => ?_)
    · replace hm := hm_t c1 hm
      refine q_aload_n (pc := 17) C dX8_wouldGo_17 rfl 0 rfl ?_
      obtain ⟨r1, h2, hm⟩ := o1_some hm
      refine q_callU (pc := 18) (k := 12) (As := []) (rest := []) (T := TX0) (owner := "Tessera$Store") (x := ⟨"Tessera$Store", "countToGo", "()I"⟩) C (c_Cop_countToGo hi h2) (by decide) (ce_12 _ _ _) (ci := 0) rfl (Or.inr (Or.inl (by decide))) tw_802 tw_803 tw_805 tw_804 tw_26 tw_806 (by decide +kernel) (by decide) (by decide) rfl dX8_wouldGo_18 ?_
      cases hm
      exact q_iret (pc := 21) C dX8_wouldGo_21
    · replace hm := hm_f c1 hm
      refine q_iconst (pc := 13) (v := (0 : Int32)) C dX8_wouldGo_13 (by decide) ?_
      refine q_goto (pc := 14) (tgt := 21) C dX8_wouldGo_14 (by decide) ?_
      cases hm
      exact q_iret (pc := 21) C dX8_wouldGo_21
  replace hm := hm_f c5 hm
  by_cases c6 : k1 = 18
  · replace hm := hm_t c6 hm
    subst c6
    refine q_astore_n (pc := 5) (lv' := [(2, .ref (gad G 18)), (0, .ref (gad G 0)), (1, .int a1)]) C dX8_wouldGo_5 rfl (by decide) rfl ?_
    refine q_aload_n (pc := 6) C dX8_wouldGo_6 rfl 0 rfl ?_
    refine q_get (pc := 7) (T := TX4) (v := .int (S 18 5)) C (by decide) (ce_18 _ _ _) (ci := 4) rfl inlX4 (j := 5) (by decide) rfl tw_199 (Or.inl rfl) dX8_wouldGo_7 ?_
    refine q_if_eq (pc := 10) (tgt := 17) C dX8_wouldGo_10 (by decide) (fun c2 => ?_) (fun c2 => ?_)
    · replace hm := hm_t c2 hm
      refine q_aload_n (pc := 17) C dX8_wouldGo_17 rfl 0 rfl ?_
      obtain ⟨r2, h3, hm⟩ := o1_some hm
      refine q_callU (pc := 18) (k := 18) (As := []) (rest := []) (T := TX4) (owner := "Tessera$Store") (x := ⟨"Tessera$Store", "countToGo", "()I"⟩) C (c_Nur_countToGo hi h3) (by decide) (ce_18 _ _ _) (ci := 4) rfl (Or.inr (Or.inl (by decide))) tw_802 tw_803 tw_826 tw_825 tw_16 tw_827 (by decide +kernel) (by decide) (by decide) rfl dX8_wouldGo_18 ?_
      cases hm
      exact q_iret (pc := 21) C dX8_wouldGo_21
    · replace hm := hm_f c2 hm
      refine q_iconst (pc := 13) (v := (0 : Int32)) C dX8_wouldGo_13 (by decide) ?_
      refine q_goto (pc := 14) (tgt := 21) C dX8_wouldGo_14 (by decide) ?_
      cases hm
      exact q_iret (pc := 21) C dX8_wouldGo_21
  replace hm := hm_f c6 hm
  by_cases c7 : k1 = 31
  · replace hm := hm_t c7 hm
    subst c7
    refine q_astore_n (pc := 5) (lv' := [(2, .ref (gad G 31)), (0, .ref (gad G 0)), (1, .int a1)]) C dX8_wouldGo_5 rfl (by decide) rfl ?_
    refine q_aload_n (pc := 6) C dX8_wouldGo_6 rfl 0 rfl ?_
    refine q_get (pc := 7) (T := TX3) (v := .int (S 31 6)) C (by decide) (ce_31 _ _ _) (ci := 3) rfl inlX3 (j := 6) (by decide) rfl tw_199 (Or.inl rfl) dX8_wouldGo_7 ?_
    refine q_if_eq (pc := 10) (tgt := 17) C dX8_wouldGo_10 (by decide) (fun c3 => ?_) (fun c3 => ?_)
    · replace hm := hm_t c3 hm
      refine q_aload_n (pc := 17) C dX8_wouldGo_17 rfl 0 rfl ?_
      obtain ⟨r3, S1, h4, hm⟩ := ob_some hm
      refine q_callU (pc := 18) (k := 31) (As := []) (rest := []) (T := TX3) (owner := "Tessera$Store") (x := ⟨"Tessera$Store", "countToGo", "()I"⟩) C (c_Mar_countToGo hi h4) (by decide) (ce_31 _ _ _) (ci := 3) rfl (Or.inr (Or.inl (by decide))) tw_802 tw_803 tw_814 tw_813 tw_19 tw_815 (by decide +kernel) (by decide) (by decide) rfl dX8_wouldGo_18 ?_
      cases hm
      exact q_iret (pc := 21) C dX8_wouldGo_21
    · replace hm := hm_f c3 hm
      refine q_iconst (pc := 13) (v := (0 : Int32)) C dX8_wouldGo_13 (by decide) ?_
      refine q_goto (pc := 14) (tgt := 21) C dX8_wouldGo_14 (by decide) ?_
      cases hm
      exact q_iret (pc := 21) C dX8_wouldGo_21
  replace hm := hm_f c7 hm
  by_cases c8 : k1 = 42
  · replace hm := hm_t c8 hm
    subst c8
    refine q_astore_n (pc := 5) (lv' := [(2, .ref (gad G 42)), (0, .ref (gad G 0)), (1, .int a1)]) C dX8_wouldGo_5 rfl (by decide) rfl ?_
    refine q_aload_n (pc := 6) C dX8_wouldGo_6 rfl 0 rfl ?_
    refine q_get (pc := 7) (T := TX1) (v := .int (S 42 6)) C (by decide) (ce_42 _ _ _) (ci := 1) rfl inlX1 (j := 6) (by decide) rfl tw_199 (Or.inl rfl) dX8_wouldGo_7 ?_
    refine q_if_eq (pc := 10) (tgt := 17) C dX8_wouldGo_10 (by decide) (fun c4 => ?_) (fun c4 => ?_)
    · replace hm := hm_t c4 hm
      refine q_aload_n (pc := 17) C dX8_wouldGo_17 rfl 0 rfl ?_
      obtain ⟨r4, S2, h5, hm⟩ := ob_some hm
      refine q_callU (pc := 18) (k := 42) (As := []) (rest := []) (T := TX1) (owner := "Tessera$Store") (x := ⟨"Tessera$Store", "countToGo", "()I"⟩) C (c_Cou_countToGo hi h5) (by decide) (ce_42 _ _ _) (ci := 1) rfl (Or.inr (Or.inl (by decide))) tw_802 tw_803 tw_811 tw_810 tw_22 tw_812 (by decide +kernel) (by decide) (by decide) rfl dX8_wouldGo_18 ?_
      cases hm
      exact q_iret (pc := 21) C dX8_wouldGo_21
    · replace hm := hm_f c4 hm
      refine q_iconst (pc := 13) (v := (0 : Int32)) C dX8_wouldGo_13 (by decide) ?_
      refine q_goto (pc := 14) (tgt := 21) C dX8_wouldGo_14 (by decide) ?_
      cases hm
      exact q_iret (pc := 21) C dX8_wouldGo_21
  replace hm := hm_f c8 hm
  cases hm
set_option maxRecDepth 100000 in
theorem w_St_wordsReached_12_L4 {G : Gx} (hi : qinj (gad G)) {X : Cx} (C : QC G X cX7_wordsReached 3 RX7 1 21 (some .int)) {Q : State → Prop} : ∀ (n : Nat) (S : St) (v1 : Int32) (v2 : Int32) (x1 : Int32), m_St_wordsReached_L4 12 0 n S v1 v2 = some x1 → QW G X 3 Q 55 [(1, .int x1)] [] S → QW G X 3 Q 4 [(0, .ref (gad G 12)), (1, .int v1), (2, .int v2)] [] S := by
  intro n
  induction n with
  | zero =>
    intro S v1 v2 x1 hm kk
    rw [m_St_wordsReached_L4] at hm
    cases hm
  | succ n ih =>
    intro S v1 v2 x1 hm kk
    rw [m_St_wordsReached_L4] at hm
    refine q_iload_n (pc := 4) C dX7_wordsReached_4 rfl 2 rfl ?_
    refine q_aload_n (pc := 5) C dX7_wordsReached_5 rfl 0 rfl ?_
    refine q_get (pc := 6) (T := TX0) (v := .ref (gad G 1)) C (by decide) (ce_12 _ _ _) (ci := 0) rfl inlX0 (j := 0) (by decide) rfl tw_67 (Or.inl rfl) dX7_wordsReached_6 ?_
    refine q_get (pc := 9) (T := TX2) (v := .int (S 1 6)) C (by decide) (ce_1 _ _ _) (ci := 2) rfl inlX2 (j := 6) (by decide) rfl tw_252 (Or.inl rfl) dX7_wordsReached_9 ?_
    refine q_icmp_ge (pc := 12) (tgt := 55) C dX7_wordsReached_12 (by decide) (fun c1 => ?_) (fun c1 => ?_)
    · replace hm := hm_t c1 hm
      cases hm
      refine q_lv (lv' := [(1, .int v1)]) [1] rfl ?_
      exact kk
    · replace hm := hm_f c1 hm
      refine q_iload_n (pc := 15) C dX7_wordsReached_15 rfl 1 rfl ?_
      refine q_aload_n (pc := 16) C dX7_wordsReached_16 rfl 0 rfl ?_
      refine q_iload_n (pc := 17) C dX7_wordsReached_17 rfl 2 rfl ?_
      obtain ⟨r1, h1, hm⟩ := o1_some hm
      refine q_callU (pc := 18) (k := 12) (As := [.int v2]) (rest := [.int v1]) (T := TX0) (owner := "Tessera$Store") (x := ⟨"Tessera$Store", "has", "(I)Z"⟩) C (c_St_has_12 hi h1) (by decide) (ce_12 _ _ _) (ci := 0) rfl (Or.inl rfl) tw_253 tw_254 tw_256 tw_255 tw_62 tw_257 (by decide +kernel) (by decide) (by decide) rfl dX7_wordsReached_18 ?_
      refine q_if_eq (pc := 21) (tgt := 46) C dX7_wordsReached_21 (by decide) (fun c2 => ?_) (fun c2 => ?_)
      · replace hm := hm_t c2 hm
        refine q_iconst (pc := 46) (v := (0 : Int32)) C dX7_wordsReached_46 (by decide) ?_
        refine q_iadd (pc := 47) C dX7_wordsReached_47 ?_
        refine q_istore_n (pc := 48) (lv' := [(1, .int (v1 + (0 : Int32))), (0, .ref (gad G 12)), (2, .int v2)]) C dX7_wordsReached_48 rfl (by decide) rfl ?_
        refine q_iinc (pc := 49) (k := 2) (v := (v2 + (1 : Int32))) (lv' := [(2, .int (v2 + (1 : Int32))), (1, .int (v1 + (0 : Int32))), (0, .ref (gad G 12))]) C dX7_wordsReached_49 rfl rfl (by decide) rfl ?_
        refine q_goto (pc := 52) (tgt := 4) C dX7_wordsReached_52 (by decide) ?_
        refine q_lv (lv' := [(0, .ref (gad G 12)), (1, .int (v1 + (0 : Int32))), (2, .int (v2 + (1 : Int32)))]) [2, 1, 0] rfl ?_
        exact ih _ _ _ _ hm kk
      · replace hm := hm_f c2 hm
        refine q_aload_n (pc := 24) C dX7_wordsReached_24 rfl 0 rfl ?_
        refine q_get (pc := 25) (T := TX0) (v := .ref (gad G 1)) C (by decide) (ce_12 _ _ _) (ci := 0) rfl inlX0 (j := 0) (by decide) rfl tw_67 (Or.inl rfl) dX7_wordsReached_25 ?_
        refine q_iload_n (pc := 28) C dX7_wordsReached_28 rfl 2 rfl ?_
        obtain ⟨r2, h2, hm⟩ := o1_some hm
        refine q_callV (pc := 29) (k := 1) (As := [.int v2]) (rest := [.int v1]) (T := TX2) C (c_Gr_isReached hi h2) (by decide) (ce_1 _ _ _) (ci := 2) rfl tw_525 tw_526 tw_527 tw_13 tw_528 (by decide +kernel) (by decide) (by decide) rfl dX7_wordsReached_29 ?_
        refine q_if_eq (pc := 32) (tgt := 46) C dX7_wordsReached_32 (by decide) (fun c3 => ?_) (fun c3 => ?_)
        · replace hm := hm_t c3 hm
          refine q_iconst (pc := 46) (v := (0 : Int32)) C dX7_wordsReached_46 (by decide) ?_
          refine q_iadd (pc := 47) C dX7_wordsReached_47 ?_
          refine q_istore_n (pc := 48) (lv' := [(1, .int (v1 + (0 : Int32))), (0, .ref (gad G 12)), (2, .int v2)]) C dX7_wordsReached_48 rfl (by decide) rfl ?_
          refine q_iinc (pc := 49) (k := 2) (v := (v2 + (1 : Int32))) (lv' := [(2, .int (v2 + (1 : Int32))), (1, .int (v1 + (0 : Int32))), (0, .ref (gad G 12))]) C dX7_wordsReached_49 rfl rfl (by decide) rfl ?_
          refine q_goto (pc := 52) (tgt := 4) C dX7_wordsReached_52 (by decide) ?_
          refine q_lv (lv' := [(0, .ref (gad G 12)), (1, .int (v1 + (0 : Int32))), (2, .int (v2 + (1 : Int32)))]) [2, 1, 0] rfl ?_
          exact ih _ _ _ _ hm kk
        · replace hm := hm_f c3 hm
          refine q_aload_n (pc := 35) C dX7_wordsReached_35 rfl 0 rfl ?_
          refine q_get (pc := 36) (T := TX0) (v := .ref (gad G 1)) C (by decide) (ce_12 _ _ _) (ci := 0) rfl inlX0 (j := 0) (by decide) rfl tw_67 (Or.inl rfl) dX7_wordsReached_36 ?_
          refine q_iload_n (pc := 39) C dX7_wordsReached_39 rfl 2 rfl ?_
          obtain ⟨r3, h3, hm⟩ := o1_some hm
          refine q_callV (pc := 40) (k := 1) (As := [.int v2]) (rest := [.int v1]) (T := TX2) C (c_Gr_wordsOf hi h3) (by decide) (ce_1 _ _ _) (ci := 2) rfl tw_416 tw_229 tw_230 tw_13 tw_231 (by decide +kernel) (by decide) (by decide) rfl dX7_wordsReached_40 ?_
          refine q_goto (pc := 43) (tgt := 47) C dX7_wordsReached_43 (by decide) ?_
          refine q_iadd (pc := 47) C dX7_wordsReached_47 ?_
          refine q_istore_n (pc := 48) (lv' := [(1, .int (v1 + r3)), (0, .ref (gad G 12)), (2, .int v2)]) C dX7_wordsReached_48 rfl (by decide) rfl ?_
          refine q_iinc (pc := 49) (k := 2) (v := (v2 + (1 : Int32))) (lv' := [(2, .int (v2 + (1 : Int32))), (1, .int (v1 + r3)), (0, .ref (gad G 12))]) C dX7_wordsReached_49 rfl rfl (by decide) rfl ?_
          refine q_goto (pc := 52) (tgt := 4) C dX7_wordsReached_52 (by decide) ?_
          refine q_lv (lv' := [(0, .ref (gad G 12)), (1, .int (v1 + r3)), (2, .int (v2 + (1 : Int32)))]) [2, 1, 0] rfl ?_
          exact ih _ _ _ _ hm kk
set_option maxRecDepth 100000 in
theorem c_St_wordsReached_12 {G : Gx} (hi : qinj (gad G)) {S : St}  {r9 : Int32} (hm : m_St_wordsReached 12 0 S  = some r9) : QMet G yX7_wordsReached cX7_wordsReached 3 (some .int) 1 21 [.ref (gad G 12)] S (some (.int r9)) S := by
  refine q_entry (by decide +kernel) rfl hi (by decide) ?_
  intro X C
  refine q_lv (lv' := [(0, .ref (gad G 12))]) [0] rfl ?_
  unfold m_St_wordsReached at hm
  refine q_iconst (pc := 0) (v := (0 : Int32)) C dX7_wordsReached_0 (by decide) ?_
  refine q_istore_n (pc := 1) (lv' := [(1, .int (0 : Int32)), (0, .ref (gad G 12))]) C dX7_wordsReached_1 rfl (by decide) rfl ?_
  refine q_iconst (pc := 2) (v := (0 : Int32)) C dX7_wordsReached_2 (by decide) ?_
  refine q_istore_n (pc := 3) (lv' := [(2, .int (0 : Int32)), (1, .int (0 : Int32)), (0, .ref (gad G 12))]) C dX7_wordsReached_3 rfl (by decide) rfl ?_
  refine q_lv (lv' := [(0, .ref (gad G 12)), (1, .int (0 : Int32)), (2, .int (0 : Int32))]) [2, 1, 0] rfl ?_
  obtain ⟨y1, h1, hm⟩ := o1_some hm
  refine w_St_wordsReached_12_L4 hi C 200 _ _ _ _ h1 ?_
  refine q_iload_n (pc := 55) C dX7_wordsReached_55 rfl 0 rfl ?_
  cases hm
  exact q_iret (pc := 56) C dX7_wordsReached_56
set_option maxRecDepth 100000 in
theorem c_Cop_workToDo {G : Gx} (hi : qinj (gad G)) {S : St}  {r9 : Int32} (hm : m_Cop_workToDo S  = some r9) : QMet G yX0_workToDo cX0_workToDo 1 (some .int) 2 43 [.ref (gad G 12)] S (some (.int r9)) S := by
  refine q_entry (by decide +kernel) rfl hi (by decide) ?_
  intro X C
  refine q_lv (lv' := [(0, .ref (gad G 12))]) [0] rfl ?_
  unfold m_Cop_workToDo at hm
  refine q_aload_n (pc := 0) C dX0_workToDo_0 rfl 0 rfl ?_
  obtain ⟨r1, h1, hm⟩ := o1_some hm
  refine q_callU (pc := 1) (k := 12) (As := []) (rest := []) (T := TX0) (owner := "Tessera$Store") (x := ⟨"Tessera$Copying", "wordsReached", "()I"⟩) C (c_St_wordsReached_12 hi h1) (by decide) (ce_12 _ _ _) (ci := 0) rfl (Or.inl rfl) tw_840 tw_841 tw_523 tw_842 tw_62 tw_524 (by decide +kernel) (by decide) (by decide) rfl dX0_workToDo_1 ?_
  cases hm
  exact q_iret (pc := 4) C dX0_workToDo_4
set_option maxRecDepth 100000 in
theorem c_Nur_workToDo {G : Gx} (hi : qinj (gad G)) {S : St}  {r9 : Int32} (hm : m_Nur_workToDo S  = some r9) : QMet G yX4_workToDo cX4_workToDo 1 (some .int) 3 63 [.ref (gad G 18)] S (some (.int r9)) S := by
  refine q_entry (by decide +kernel) rfl hi (by decide) ?_
  intro X C
  refine q_lv (lv' := [(0, .ref (gad G 18))]) [0] rfl ?_
  unfold m_Nur_workToDo at hm
  refine q_aload_n (pc := 0) C dX4_workToDo_0 rfl 0 rfl ?_
  obtain ⟨r1, h1, hm⟩ := o1_some hm
  refine q_callV (pc := 1) (k := 18) (As := []) (rest := []) (T := TX4) C (c_Nur_greatFits hi h1) (by decide) (ce_18 _ _ _) (ci := 4) rfl tw_516 tw_517 tw_518 tw_16 tw_519 (by decide +kernel) (by decide) (by decide) rfl dX4_workToDo_1 ?_
  refine q_if_eq (pc := 4) (tgt := 14) C dX4_workToDo_4 (by decide) (fun c1 => ?_) (fun c1 => ?_)
  · replace hm := hm_t c1 hm
    refine q_iconst (pc := 14) (v := (0 : Int32)) C dX4_workToDo_14 (by decide) ?_
    cases hm
    exact q_iret (pc := 15) C dX4_workToDo_15
  · replace hm := hm_f c1 hm
    refine q_aload_n (pc := 7) C dX4_workToDo_7 rfl 0 rfl ?_
    obtain ⟨r2, h2, hm⟩ := o1_some hm
    refine q_callU (pc := 8) (k := 18) (As := []) (rest := []) (T := TX4) (owner := "Tessera$Store") (x := ⟨"Tessera$Nursery", "wordsReached", "()I"⟩) C (c_St_wordsReached_18 hi h2) (by decide) (ce_18 _ _ _) (ci := 4) rfl (Or.inl rfl) tw_520 tw_521 tw_523 tw_522 tw_62 tw_524 (by decide +kernel) (by decide) (by decide) rfl dX4_workToDo_8 ?_
    refine q_goto (pc := 11) (tgt := 15) C dX4_workToDo_11 (by decide) ?_
    cases hm
    exact q_iret (pc := 15) C dX4_workToDo_15
set_option maxRecDepth 100000 in
theorem w_Mar_workToDo_L11 {G : Gx} (hi : qinj (gad G)) {X : Cx} (C : QC G X cX3_workToDo 3 RX3 4 86 (some .int)) {Q : State → Prop} : ∀ (n : Nat) (S : St) (v1 : Int32) (v2 : Int32) (x1 : Int32), m_Mar_workToDo_L11 n S v1 v2 = some x1 → QW G X 3 Q 46 [(1, .int x1)] [] S → QW G X 3 Q 11 [(0, .ref (gad G 31)), (1, .int v1), (2, .int v2)] [] S := by
  intro n
  induction n with
  | zero =>
    intro S v1 v2 x1 hm kk
    rw [m_Mar_workToDo_L11] at hm
    cases hm
  | succ n ih =>
    intro S v1 v2 x1 hm kk
    rw [m_Mar_workToDo_L11] at hm
    refine q_iload_n (pc := 11) C dX3_workToDo_11 rfl 2 rfl ?_
    refine q_aload_n (pc := 12) C dX3_workToDo_12 rfl 0 rfl ?_
    refine q_get (pc := 13) (T := TX3) (v := .ref (gad G 39)) C (by decide) (ce_31 _ _ _) (ci := 3) rfl inlX3 (j := 13) (by decide) rfl tw_75 (Or.inl rfl) dX3_workToDo_13 ?_
    refine q_get (pc := 16) (T := TX5) (v := .int (S 39 2)) C (by decide) (ce_39 _ _ _) (ci := 5) rfl inlX5 (j := 2) (by decide) rfl tw_448 (Or.inl rfl) dX3_workToDo_16 ?_
    refine q_icmp_ge (pc := 19) (tgt := 46) C dX3_workToDo_19 (by decide) (fun c1 => ?_) (fun c1 => ?_)
    · replace hm := hm_t c1 hm
      cases hm
      refine q_lv (lv' := [(1, .int v1)]) [1] rfl ?_
      exact kk
    · replace hm := hm_f c1 hm
      refine q_iload_n (pc := 22) C dX3_workToDo_22 rfl 1 rfl ?_
      refine q_aload_n (pc := 23) C dX3_workToDo_23 rfl 0 rfl ?_
      refine q_get (pc := 24) (T := TX3) (v := .ref (gad G 1)) C (by decide) (ce_31 _ _ _) (ci := 3) rfl inlX3 (j := 1) (by decide) rfl tw_421 (Or.inr tw_422) dX3_workToDo_24 ?_
      refine q_aload_n (pc := 27) C dX3_workToDo_27 rfl 0 rfl ?_
      refine q_get (pc := 28) (T := TX3) (v := .ref (gad G 39)) C (by decide) (ce_31 _ _ _) (ci := 3) rfl inlX3 (j := 13) (by decide) rfl tw_75 (Or.inl rfl) dX3_workToDo_28 ?_
      refine q_iload_n (pc := 31) C dX3_workToDo_31 rfl 2 rfl ?_
      obtain ⟨r1, h1, hm⟩ := o1_some hm
      refine q_callV (pc := 32) (k := 39) (As := [.int v2]) (rest := [.ref (gad G 1), .int v1]) (T := TX5) C (c_Row_get_39 hi h1) (by decide) (ce_39 _ _ _) (ci := 5) rfl tw_464 tw_271 tw_272 tw_43 tw_273 (by decide +kernel) (by decide) (by decide) rfl dX3_workToDo_32 ?_
      obtain ⟨r2, h2, hm⟩ := o1_some hm
      refine q_callV (pc := 35) (k := 1) (As := [.int r1]) (rest := [.int v1]) (T := TX2) C (c_Gr_wordsOf hi h2) (by decide) (ce_1 _ _ _) (ci := 2) rfl tw_467 tw_229 tw_230 tw_13 tw_231 (by decide +kernel) (by decide) (by decide) rfl dX3_workToDo_35 ?_
      refine q_iadd (pc := 38) C dX3_workToDo_38 ?_
      refine q_istore_n (pc := 39) (lv' := [(1, .int (v1 + r2)), (0, .ref (gad G 31)), (2, .int v2)]) C dX3_workToDo_39 rfl (by decide) rfl ?_
      refine q_iinc (pc := 40) (k := 2) (v := (v2 + (1 : Int32))) (lv' := [(2, .int (v2 + (1 : Int32))), (1, .int (v1 + r2)), (0, .ref (gad G 31))]) C dX3_workToDo_40 rfl rfl (by decide) rfl ?_
      refine q_goto (pc := 43) (tgt := 11) C dX3_workToDo_43 (by decide) ?_
      refine q_lv (lv' := [(0, .ref (gad G 31)), (1, .int (v1 + r2)), (2, .int (v2 + (1 : Int32)))]) [2, 1, 0] rfl ?_
      exact ih _ _ _ _ hm kk
set_option maxRecDepth 100000 in
theorem c_Mar_workToDo {G : Gx} (hi : qinj (gad G)) {S : St}  {r9 : Int32} {S9 : St} (hm : m_Mar_workToDo S  = some (r9, S9)) : QMet G yX3_workToDo cX3_workToDo 3 (some .int) 4 86 [.ref (gad G 31)] S (some (.int r9)) S9 := by
  refine q_entry (by decide +kernel) rfl hi (by decide) ?_
  intro X C
  refine q_lv (lv' := [(0, .ref (gad G 31))]) [0] rfl ?_
  unfold m_Mar_workToDo at hm
  refine q_aload_n (pc := 0) C dX3_workToDo_0 rfl 0 rfl ?_
  obtain ⟨S1, h1, hm⟩ := o1_some hm
  refine q_callV (pc := 1) (k := 31) (As := []) (rest := []) (T := TX3) C (c_Mar_foresee hi h1) (by decide) (ce_31 _ _ _) (ci := 3) rfl tw_816 tw_817 tw_818 tw_19 tw_819 (by decide +kernel) (by decide) (by decide) rfl dX3_workToDo_1 ?_
  refine q_aload_n (pc := 4) C dX3_workToDo_4 rfl 0 rfl ?_
  obtain ⟨r1, h2, hm⟩ := o1_some hm
  refine q_callU (pc := 5) (k := 31) (As := []) (rest := []) (T := TX3) (owner := "Tessera$Store") (x := ⟨"Tessera$Marking", "countHad", "()I"⟩) C (c_St_countHad_31 hi h2) (by decide) (ce_31 _ _ _) (ci := 3) rfl (Or.inl rfl) tw_458 tw_459 tw_250 tw_460 tw_62 tw_251 (by decide +kernel) (by decide) (by decide) rfl dX3_workToDo_5 ?_
  refine q_istore_n (pc := 8) (lv' := [(1, .int r1), (0, .ref (gad G 31))]) C dX3_workToDo_8 rfl (by decide) rfl ?_
  refine q_iconst (pc := 9) (v := (0 : Int32)) C dX3_workToDo_9 (by decide) ?_
  refine q_istore_n (pc := 10) (lv' := [(2, .int (0 : Int32)), (1, .int r1), (0, .ref (gad G 31))]) C dX3_workToDo_10 rfl (by decide) rfl ?_
  refine q_lv (lv' := [(0, .ref (gad G 31)), (1, .int r1), (2, .int (0 : Int32))]) [2, 1, 0] rfl ?_
  obtain ⟨y1, h3, hm⟩ := o1_some hm
  refine w_Mar_workToDo_L11 hi C 200 _ _ _ _ h3 ?_
  refine q_iload_n (pc := 46) C dX3_workToDo_46 rfl 0 rfl ?_
  cases hm
  exact q_iret (pc := 47) C dX3_workToDo_47
set_option maxRecDepth 100000 in
theorem c_Cou_workToDo {G : Gx} (hi : qinj (gad G)) {S : St}  {r9 : Int32} {S9 : St} (hm : m_Cou_workToDo S  = some (r9, S9)) : QMet G yX1_workToDo cX1_workToDo 1 (some .int) 4 88 [.ref (gad G 42)] S (some (.int r9)) S9 := by
  refine q_entry (by decide +kernel) rfl hi (by decide) ?_
  intro X C
  refine q_lv (lv' := [(0, .ref (gad G 42))]) [0] rfl ?_
  unfold m_Cou_workToDo at hm
  refine q_aload_n (pc := 0) C dX1_workToDo_0 rfl 0 rfl ?_
  obtain ⟨S1, h1, hm⟩ := o1_some hm
  refine q_callV (pc := 1) (k := 42) (As := []) (rest := []) (T := TX1) C (c_Cou_findRings hi h1) (by decide) (ce_42 _ _ _) (ci := 1) rfl tw_355 tw_356 tw_357 tw_22 tw_358 (by decide +kernel) (by decide) (by decide) rfl dX1_workToDo_1 ?_
  refine q_aload_n (pc := 4) C dX1_workToDo_4 rfl 0 rfl ?_
  refine q_get (pc := 5) (T := TX1) (v := .ref (gad G 52)) C (by decide) (ce_42 _ _ _) (ci := 1) rfl inlX1 (j := 15) (by decide) rfl tw_90 (Or.inl rfl) dX1_workToDo_5 ?_
  refine q_get (pc := 8) (T := TX5) (v := .int (S1 52 2)) C (by decide) (ce_52 _ _ _) (ci := 5) rfl inlX5 (j := 2) (by decide) rfl tw_352 (Or.inl rfl) dX1_workToDo_8 ?_
  cases hm
  exact q_iret (pc := 11) C dX1_workToDo_11
set_option maxRecDepth 100000 in
theorem c_Te_wouldWork {G : Gx} (hi : qinj (gad G)) {S : St} {a1 : Int32} {r9 : Int32} {S9 : St} (hm : m_Te_wouldWork S a1 = some (r9, S9)) : QMet G yX8_wouldWork cX8_wouldWork 3 (some .int) 5 108 [.ref (gad G 0), .int a1] S (some (.int r9)) S9 := by
  refine q_entry (by decide +kernel) rfl hi (by decide) ?_
  intro X C
  refine q_lv (lv' := [(0, .ref (gad G 0)), (1, .int a1)]) [0, 1] rfl ?_
  unfold m_Te_wouldWork at hm
  refine q_aload_n (pc := 0) C dX8_wouldWork_0 rfl 0 rfl ?_
  refine q_iload_n (pc := 1) C dX8_wouldWork_1 rfl 1 rfl ?_
  obtain ⟨k1, h1, hm⟩ := o1_some hm
  refine q_callV (pc := 2) (k := 0) (As := [.int a1]) (rest := []) (T := TX8) C (c_Te_storeOf hi h1) (by decide) (ce_0 _ _ _) (ci := 6) rfl tw_716 tw_717 tw_718 tw_2 tw_719 (by decide +kernel) (by decide) (by decide) rfl dX8_wouldWork_2 ?_
  by_cases c5 : k1 = 12
  · replace hm := hm_t c5 hm
    subst c5
    refine q_astore_n (pc := 5) (lv' := [(2, .ref (gad G 12)), (0, .ref (gad G 0)), (1, .int a1)]) C dX8_wouldWork_5 rfl (by decide) rfl ?_
    refine q_aload_n (pc := 6) C dX8_wouldWork_6 rfl 0 rfl ?_
    refine q_get (pc := 7) (T := TX0) (v := .int (S 12 5)) C (by decide) (ce_12 _ _ _) (ci := 0) rfl inlX0 (j := 5) (by decide) rfl tw_199 (Or.inl rfl) dX8_wouldWork_7 ?_
    refine q_if_eq (pc := 10) (tgt := 17) C dX8_wouldWork_10 (by decide) (fun c1 => ?_) (fun c1 => ?_)
    · replace hm := hm_t c1 hm
      refine q_aload_n (pc := 17) C dX8_wouldWork_17 rfl 0 rfl ?_
      obtain ⟨r1, h2, hm⟩ := o1_some hm
      refine q_callU (pc := 18) (k := 12) (As := []) (rest := []) (T := TX0) (owner := "Tessera$Store") (x := ⟨"Tessera$Store", "workToDo", "()I"⟩) C (c_Cop_workToDo hi h2) (by decide) (ce_12 _ _ _) (ci := 0) rfl (Or.inr (Or.inl (by decide))) tw_835 tw_836 tw_838 tw_837 tw_26 tw_839 (by decide +kernel) (by decide) (by decide) rfl dX8_wouldWork_18 ?_
      cases hm
      exact q_iret (pc := 21) C dX8_wouldWork_21
    · replace hm := hm_f c1 hm
      refine q_iconst (pc := 13) (v := (0 : Int32)) C dX8_wouldWork_13 (by decide) ?_
      refine q_goto (pc := 14) (tgt := 21) C dX8_wouldWork_14 (by decide) ?_
      cases hm
      exact q_iret (pc := 21) C dX8_wouldWork_21
  replace hm := hm_f c5 hm
  by_cases c6 : k1 = 18
  · replace hm := hm_t c6 hm
    subst c6
    refine q_astore_n (pc := 5) (lv' := [(2, .ref (gad G 18)), (0, .ref (gad G 0)), (1, .int a1)]) C dX8_wouldWork_5 rfl (by decide) rfl ?_
    refine q_aload_n (pc := 6) C dX8_wouldWork_6 rfl 0 rfl ?_
    refine q_get (pc := 7) (T := TX4) (v := .int (S 18 5)) C (by decide) (ce_18 _ _ _) (ci := 4) rfl inlX4 (j := 5) (by decide) rfl tw_199 (Or.inl rfl) dX8_wouldWork_7 ?_
    refine q_if_eq (pc := 10) (tgt := 17) C dX8_wouldWork_10 (by decide) (fun c2 => ?_) (fun c2 => ?_)
    · replace hm := hm_t c2 hm
      refine q_aload_n (pc := 17) C dX8_wouldWork_17 rfl 0 rfl ?_
      obtain ⟨r2, h3, hm⟩ := o1_some hm
      refine q_callU (pc := 18) (k := 18) (As := []) (rest := []) (T := TX4) (owner := "Tessera$Store") (x := ⟨"Tessera$Store", "workToDo", "()I"⟩) C (c_Nur_workToDo hi h3) (by decide) (ce_18 _ _ _) (ci := 4) rfl (Or.inr (Or.inl (by decide))) tw_835 tw_836 tw_850 tw_849 tw_16 tw_851 (by decide +kernel) (by decide) (by decide) rfl dX8_wouldWork_18 ?_
      cases hm
      exact q_iret (pc := 21) C dX8_wouldWork_21
    · replace hm := hm_f c2 hm
      refine q_iconst (pc := 13) (v := (0 : Int32)) C dX8_wouldWork_13 (by decide) ?_
      refine q_goto (pc := 14) (tgt := 21) C dX8_wouldWork_14 (by decide) ?_
      cases hm
      exact q_iret (pc := 21) C dX8_wouldWork_21
  replace hm := hm_f c6 hm
  by_cases c7 : k1 = 31
  · replace hm := hm_t c7 hm
    subst c7
    refine q_astore_n (pc := 5) (lv' := [(2, .ref (gad G 31)), (0, .ref (gad G 0)), (1, .int a1)]) C dX8_wouldWork_5 rfl (by decide) rfl ?_
    refine q_aload_n (pc := 6) C dX8_wouldWork_6 rfl 0 rfl ?_
    refine q_get (pc := 7) (T := TX3) (v := .int (S 31 6)) C (by decide) (ce_31 _ _ _) (ci := 3) rfl inlX3 (j := 6) (by decide) rfl tw_199 (Or.inl rfl) dX8_wouldWork_7 ?_
    refine q_if_eq (pc := 10) (tgt := 17) C dX8_wouldWork_10 (by decide) (fun c3 => ?_) (fun c3 => ?_)
    · replace hm := hm_t c3 hm
      refine q_aload_n (pc := 17) C dX8_wouldWork_17 rfl 0 rfl ?_
      obtain ⟨r3, S1, h4, hm⟩ := ob_some hm
      refine q_callU (pc := 18) (k := 31) (As := []) (rest := []) (T := TX3) (owner := "Tessera$Store") (x := ⟨"Tessera$Store", "workToDo", "()I"⟩) C (c_Mar_workToDo hi h4) (by decide) (ce_31 _ _ _) (ci := 3) rfl (Or.inr (Or.inl (by decide))) tw_835 tw_836 tw_847 tw_846 tw_19 tw_848 (by decide +kernel) (by decide) (by decide) rfl dX8_wouldWork_18 ?_
      cases hm
      exact q_iret (pc := 21) C dX8_wouldWork_21
    · replace hm := hm_f c3 hm
      refine q_iconst (pc := 13) (v := (0 : Int32)) C dX8_wouldWork_13 (by decide) ?_
      refine q_goto (pc := 14) (tgt := 21) C dX8_wouldWork_14 (by decide) ?_
      cases hm
      exact q_iret (pc := 21) C dX8_wouldWork_21
  replace hm := hm_f c7 hm
  by_cases c8 : k1 = 42
  · replace hm := hm_t c8 hm
    subst c8
    refine q_astore_n (pc := 5) (lv' := [(2, .ref (gad G 42)), (0, .ref (gad G 0)), (1, .int a1)]) C dX8_wouldWork_5 rfl (by decide) rfl ?_
    refine q_aload_n (pc := 6) C dX8_wouldWork_6 rfl 0 rfl ?_
    refine q_get (pc := 7) (T := TX1) (v := .int (S 42 6)) C (by decide) (ce_42 _ _ _) (ci := 1) rfl inlX1 (j := 6) (by decide) rfl tw_199 (Or.inl rfl) dX8_wouldWork_7 ?_
    refine q_if_eq (pc := 10) (tgt := 17) C dX8_wouldWork_10 (by decide) (fun c4 => ?_) (fun c4 => ?_)
    · replace hm := hm_t c4 hm
      refine q_aload_n (pc := 17) C dX8_wouldWork_17 rfl 0 rfl ?_
      obtain ⟨r4, S2, h5, hm⟩ := ob_some hm
      refine q_callU (pc := 18) (k := 42) (As := []) (rest := []) (T := TX1) (owner := "Tessera$Store") (x := ⟨"Tessera$Store", "workToDo", "()I"⟩) C (c_Cou_workToDo hi h5) (by decide) (ce_42 _ _ _) (ci := 1) rfl (Or.inr (Or.inl (by decide))) tw_835 tw_836 tw_844 tw_843 tw_22 tw_845 (by decide +kernel) (by decide) (by decide) rfl dX8_wouldWork_18 ?_
      cases hm
      exact q_iret (pc := 21) C dX8_wouldWork_21
    · replace hm := hm_f c4 hm
      refine q_iconst (pc := 13) (v := (0 : Int32)) C dX8_wouldWork_13 (by decide) ?_
      refine q_goto (pc := 14) (tgt := 21) C dX8_wouldWork_14 (by decide) ?_
      cases hm
      exact q_iret (pc := 21) C dX8_wouldWork_21
  replace hm := hm_f c8 hm
  cases hm
set_option maxRecDepth 100000 in
theorem c_Te_more {G : Gx} (hi : qinj (gad G)) {S : St} {a1 : Int32} {r9 : Int32} (hm : m_Te_more S a1 = some r9) : QMet G yX8_more cX8_more 2 (some .int) 1 21 [.ref (gad G 0), .int a1] S (some (.int r9)) S := by
  refine q_entry (by decide +kernel) rfl hi (by decide) ?_
  intro X C
  refine q_lv (lv' := [(0, .ref (gad G 0)), (1, .int a1)]) [0, 1] rfl ?_
  unfold m_Te_more at hm
  refine q_iload_n (pc := 0) C dX8_more_0 rfl 1 rfl ?_
  refine q_iconst (pc := 1) (v := (3 : Int32)) C dX8_more_1 (by decide) ?_
  obtain ⟨u1, h1, hm⟩ := o1_some hm
  refine q_callS (pc := 2) (As := [.int a1, .int (3 : Int32)]) (rest := []) C (c_Te_checkWhat hi h1) tw_667 tw_668 tw_2 tw_669 (by decide +kernel) (by decide) (by decide) rfl dX8_more_2 ?_
  refine q_iload_n (pc := 5) C dX8_more_5 rfl 1 rfl ?_
  by_cases c1 : a1 = (0 : Int32)
  · replace hm := hm_t c1 hm
    refine q_tableIn (pc := 6) (tgt := 32) C dX8_more_6 (by rw [c1]; decide) (by rw [c1]; decide) (by rw [c1]; rfl) (by decide) ?_
    refine q_aload_n (pc := 32) C dX8_more_32 rfl 0 rfl ?_
    refine q_get (pc := 33) (T := TX8) (v := .ref (gad G 18)) C (by decide) (ce_0 _ _ _) (ci := 6) rfl inlX8 (j := 1) (by decide) rfl tw_28 (Or.inl rfl) dX8_more_33 ?_
    refine q_get (pc := 36) (T := TX4) (v := .int (S 18 9)) C (by decide) (ce_18 _ _ _) (ci := 4) rfl inlX4 (j := 9) (by decide) rfl tw_856 (Or.inl rfl) dX8_more_36 ?_
    cases hm
    exact q_iret (pc := 39) C dX8_more_39
  replace hm := hm_f c1 hm
  by_cases c2 : a1 = (1 : Int32)
  · replace hm := hm_t c2 hm
    refine q_tableIn (pc := 6) (tgt := 40) C dX8_more_6 (by rw [c2]; decide) (by rw [c2]; decide) (by rw [c2]; rfl) (by decide) ?_
    refine q_aload_n (pc := 40) C dX8_more_40 rfl 0 rfl ?_
    refine q_get (pc := 41) (T := TX8) (v := .ref (gad G 18)) C (by decide) (ce_0 _ _ _) (ci := 6) rfl inlX8 (j := 1) (by decide) rfl tw_28 (Or.inl rfl) dX8_more_41 ?_
    refine q_get (pc := 44) (T := TX4) (v := .int (S 18 10)) C (by decide) (ce_18 _ _ _) (ci := 4) rfl inlX4 (j := 10) (by decide) rfl tw_857 (Or.inl rfl) dX8_more_44 ?_
    cases hm
    exact q_iret (pc := 47) C dX8_more_47
  replace hm := hm_f c2 hm
  by_cases c3 : a1 = (2 : Int32)
  · replace hm := hm_t c3 hm
    refine q_tableIn (pc := 6) (tgt := 48) C dX8_more_6 (by rw [c3]; decide) (by rw [c3]; decide) (by rw [c3]; rfl) (by decide) ?_
    refine q_aload_n (pc := 48) C dX8_more_48 rfl 0 rfl ?_
    refine q_get (pc := 49) (T := TX8) (v := .ref (gad G 31)) C (by decide) (ce_0 _ _ _) (ci := 6) rfl inlX8 (j := 2) (by decide) rfl tw_29 (Or.inl rfl) dX8_more_49 ?_
    refine q_get (pc := 52) (T := TX3) (v := .int (S 31 10)) C (by decide) (ce_31 _ _ _) (ci := 3) rfl inlX3 (j := 10) (by decide) rfl tw_858 (Or.inl rfl) dX8_more_52 ?_
    obtain ⟨r1, h2, hm⟩ := o1_some hm
    refine q_callS (pc := 55) (As := [.int (S 31 10)]) (rest := []) C (c_Te_asNumber hi h2) tw_671 tw_672 tw_2 tw_673 (by decide +kernel) (by decide) (by decide) rfl dX8_more_55 ?_
    cases hm
    exact q_iret (pc := 58) C dX8_more_58
  replace hm := hm_f c3 hm
  refine q_tableOut (pc := 6) (tgt := 59) C dX8_more_6 (q_out 2 (by decide) [(0 : Int32), (1 : Int32), (2 : Int32)] (by decide) (by simp [c1, c2, c3])) (by decide) ?_
  refine q_aload_n (pc := 59) C dX8_more_59 rfl 0 rfl ?_
  refine q_get (pc := 60) (T := TX8) (v := .ref (gad G 42)) C (by decide) (ce_0 _ _ _) (ci := 6) rfl inlX8 (j := 3) (by decide) rfl tw_30 (Or.inl rfl) dX8_more_60 ?_
  refine q_get (pc := 63) (T := TX1) (v := .int (S 42 10)) C (by decide) (ce_42 _ _ _) (ci := 1) rfl inlX1 (j := 10) (by decide) rfl tw_859 (Or.inl rfl) dX8_more_63 ?_
  cases hm
  exact q_iret (pc := 66) C dX8_more_66
set_option maxRecDepth 100000 in
theorem w_Row_empty_9_L2 {G : Gx} (hi : qinj (gad G)) {X : Cx} (C : QC G X cX5_empty 2 RX5 0 0 none) {Q : State → Prop} : ∀ (n : Nat) (S : St) (v1 : Int32) (S9 : St), m_Row_empty_L2 9 n S v1 = some S9 → QW G X 2 Q 21 [(0, .ref (gad G 9))] [] S9 → QW G X 2 Q 2 [(0, .ref (gad G 9)), (1, .int v1)] [] S := by
  intro n
  induction n with
  | zero =>
    intro S v1 S9 hm kk
    rw [m_Row_empty_L2] at hm
    cases hm
  | succ n ih =>
    intro S v1 S9 hm kk
    rw [m_Row_empty_L2] at hm
    refine q_iload_n (pc := 2) C dX5_empty_2 rfl 1 rfl ?_
    refine q_bipush (pc := 3) (v := (80 : Int32)) C dX5_empty_3 (by decide) ?_
    refine q_icmp_ge (pc := 5) (tgt := 21) C dX5_empty_5 (by decide) (fun c1 => ?_) (fun c1 => ?_)
    · replace hm := hm_t c1 hm
      cases hm
      refine q_lv (lv' := [(0, .ref (gad G 9))]) [0] rfl ?_
      exact kk
    · replace hm := hm_f c1 hm
      refine q_aload_n (pc := 8) C dX5_empty_8 rfl 0 rfl ?_
      refine q_get (pc := 9) (T := TX5) (v := .ref (gad G 11)) C (by decide) (ce_9 _ _ _) (ci := 5) rfl inlX5 (j := 1) (by decide) rfl tw_50 (Or.inl rfl) dX5_empty_9 ?_
      refine q_iload_n (pc := 12) C dX5_empty_12 rfl 1 rfl ?_
      refine q_iconst (pc := 13) (v := (0 : Int32)) C dX5_empty_13 (by decide) ?_
      obtain ⟨b1, hm⟩ := oi_some hm
      refine q_zast0 (pc := 14) C (by decide) (fun _ => ce_11 _ _ _) (ty_11 _) b1 dX5_empty_14 ?_
      refine q_iinc (pc := 15) (k := 1) (v := (v1 + (1 : Int32))) (lv' := [(1, .int (v1 + (1 : Int32))), (0, .ref (gad G 9))]) C dX5_empty_15 rfl rfl (by decide) rfl ?_
      refine q_goto (pc := 18) (tgt := 2) C dX5_empty_18 (by decide) ?_
      refine q_lv (lv' := [(0, .ref (gad G 9)), (1, .int (v1 + (1 : Int32)))]) [1, 0] rfl ?_
      exact ih _ _ _ hm kk
set_option maxRecDepth 100000 in
theorem c_Row_empty_9 {G : Gx} (hi : qinj (gad G)) {S : St}  {S9 : St} (hm : m_Row_empty 9 S  = some S9) : QMet G yX5_empty cX5_empty 2 none 0 0 [.ref (gad G 9)] S none S9 := by
  refine q_entry (by decide +kernel) rfl hi (by decide) ?_
  intro X C
  refine q_lv (lv' := [(0, .ref (gad G 9))]) [0] rfl ?_
  unfold m_Row_empty at hm
  refine q_iconst (pc := 0) (v := (0 : Int32)) C dX5_empty_0 (by decide) ?_
  refine q_istore_n (pc := 1) (lv' := [(1, .int (0 : Int32)), (0, .ref (gad G 9))]) C dX5_empty_1 rfl (by decide) rfl ?_
  refine q_lv (lv' := [(0, .ref (gad G 9)), (1, .int (0 : Int32))]) [1, 0] rfl ?_
  obtain ⟨S1, h1, hm⟩ := o1_some hm
  refine w_Row_empty_9_L2 hi C 200 _ _ _ h1 ?_
  refine q_aload_n (pc := 21) C dX5_empty_21 rfl 0 rfl ?_
  refine q_iconst (pc := 22) (v := (0 : Int32)) C dX5_empty_22 (by decide) ?_
  refine q_put (pc := 23) (T := TX5) (ty := .int) C tyX5 tyX5_ok nmX5 (by decide) (ce_9 _ _ _) (pe_9_2 _ _ _ _) (ci := 5) rfl inlX5 (j := 2) (by decide) (by decide) tw_127 (Or.inl rfl) rfl (by decide +kernel) rfl rfl dX5_empty_23 ?_
  cases hm
  exact q_vret (pc := 26) C dX5_empty_26
set_option maxRecDepth 100000 in
theorem c_Row_add_9 {G : Gx} (hi : qinj (gad G)) {S : St} {a1 : Int32} {S9 : St} (hm : m_Row_add 9 S a1 = some S9) : QMet G yX5_add cX5_add 2 none 0 0 [.ref (gad G 9), .int a1] S none S9 := by
  refine q_entry (by decide +kernel) rfl hi (by decide) ?_
  intro X C
  refine q_lv (lv' := [(0, .ref (gad G 9)), (1, .int a1)]) [0, 1] rfl ?_
  unfold m_Row_add at hm
  refine q_iload_n (pc := 0) C dX5_add_0 rfl 1 rfl ?_
  refine q_if_lt (pc := 1) (tgt := 28) C dX5_add_1 (by decide) (fun c1 => ?_) (fun c1 => ?_)
  · replace hm := hm_t c1 hm
    cases hm
    exact q_vret (pc := 28) C dX5_add_28
  · replace hm := hm_f c1 hm
    refine q_iload_n (pc := 4) C dX5_add_4 rfl 1 rfl ?_
    refine q_bipush (pc := 5) (v := (80 : Int32)) C dX5_add_5 (by decide) ?_
    refine q_icmp_ge (pc := 7) (tgt := 28) C dX5_add_7 (by decide) (fun c2 => ?_) (fun c2 => ?_)
    · replace hm := hm_t c2 hm
      cases hm
      exact q_vret (pc := 28) C dX5_add_28
    · replace hm := hm_f c2 hm
      refine q_aload_n (pc := 10) C dX5_add_10 rfl 0 rfl ?_
      refine q_get (pc := 11) (T := TX5) (v := .ref (gad G 11)) C (by decide) (ce_9 _ _ _) (ci := 5) rfl inlX5 (j := 1) (by decide) rfl tw_50 (Or.inl rfl) dX5_add_11 ?_
      refine q_iload_n (pc := 14) C dX5_add_14 rfl 1 rfl ?_
      obtain ⟨b1, hm⟩ := oi_some hm
      refine q_zald (pc := 15) C (by decide) (ce_11 _ _ _) (ty_11 _) b1 dX5_add_15 ?_
      refine q_if_ne (pc := 16) (tgt := 28) C dX5_add_16 (by decide) (fun c3 => ?_) (fun c3 => ?_)
      · replace hm := hm_f c3 hm
        cases hm
        exact q_vret (pc := 28) C dX5_add_28
      · replace hm := hm_t c3 hm
        refine q_aload_n (pc := 19) C dX5_add_19 rfl 0 rfl ?_
        refine q_get (pc := 20) (T := TX5) (v := .int (S 9 2)) C (by decide) (ce_9 _ _ _) (ci := 5) rfl inlX5 (j := 2) (by decide) rfl tw_127 (Or.inl rfl) dX5_add_20 ?_
        refine q_bipush (pc := 23) (v := (80 : Int32)) C dX5_add_23 (by decide) ?_
        refine q_icmp_lt (pc := 25) (tgt := 29) C dX5_add_25 (by decide) (fun c4 => ?_) (fun c4 => ?_)
        · replace hm := hm_t c4 hm
          refine q_aload_n (pc := 29) C dX5_add_29 rfl 0 rfl ?_
          refine q_get (pc := 30) (T := TX5) (v := .ref (gad G 11)) C (by decide) (ce_9 _ _ _) (ci := 5) rfl inlX5 (j := 1) (by decide) rfl tw_50 (Or.inl rfl) dX5_add_30 ?_
          refine q_iload_n (pc := 33) C dX5_add_33 rfl 1 rfl ?_
          refine q_iconst (pc := 34) (v := (1 : Int32)) C dX5_add_34 (by decide) ?_
          obtain ⟨b2, hm⟩ := oi_some hm
          refine q_zast1 (pc := 35) C (by decide) (fun _ => ce_11 _ _ _) (ty_11 _) b2 dX5_add_35 ?_
          refine q_aload_n (pc := 36) C dX5_add_36 rfl 0 rfl ?_
          refine q_get (pc := 37) (T := TX5) (v := .ref (gad G 10)) C (by decide) (ce_9 _ _ _) (ci := 5) rfl inlX5 (j := 0) (by decide) rfl tw_49 (Or.inl rfl) dX5_add_37 ?_
          refine q_aload_n (pc := 40) C dX5_add_40 rfl 0 rfl ?_
          refine q_get (pc := 41) (T := TX5) (v := .int (S 9 2)) C (by decide) (ce_9 _ _ _) (ci := 5) rfl inlX5 (j := 2) (by decide) rfl tw_127 (Or.inl rfl) dX5_add_41 ?_
          refine q_iload_n (pc := 44) C dX5_add_44 rfl 1 rfl ?_
          obtain ⟨b3, hm⟩ := oi_some hm
          refine q_iast (pc := 45) C (by decide) (fun _ => ce_10 _ _ _) (ty_10 _) b3 dX5_add_45 ?_
          refine q_aload_n (pc := 46) C dX5_add_46 rfl 0 rfl ?_
          refine q_dup (pc := 47) C dX5_add_47 rfl ?_
          refine q_get (pc := 48) (T := TX5) (v := .int (S 9 2)) C (by decide) (ce_9 _ _ _) (ci := 5) rfl inlX5 (j := 2) (by decide) rfl tw_127 (Or.inl rfl) dX5_add_48 ?_
          refine q_iconst (pc := 51) (v := (1 : Int32)) C dX5_add_51 (by decide) ?_
          refine q_iadd (pc := 52) C dX5_add_52 ?_
          refine q_put (pc := 53) (T := TX5) (ty := .int) C tyX5 tyX5_ok nmX5 (by decide) (ce_9 _ _ _) (pe_9_2 _ _ _ _) (ci := 5) rfl inlX5 (j := 2) (by decide) (by decide) tw_127 (Or.inl rfl) rfl (by decide +kernel) rfl rfl dX5_add_53 ?_
          cases hm
          exact q_vret (pc := 56) C dX5_add_56
        · replace hm := hm_f c4 hm
          cases hm
          exact q_vret (pc := 28) C dX5_add_28
set_option maxRecDepth 100000 in
theorem c_Row_get_9 {G : Gx} (hi : qinj (gad G)) {S : St} {a1 : Int32} {r9 : Int32} (hm : m_Row_get 9 S a1 = some r9) : QMet G yX5_get cX5_get 2 (some .int) 0 0 [.ref (gad G 9), .int a1] S (some (.int r9)) S := by
  refine q_entry (by decide +kernel) rfl hi (by decide) ?_
  intro X C
  refine q_lv (lv' := [(0, .ref (gad G 9)), (1, .int a1)]) [0, 1] rfl ?_
  unfold m_Row_get at hm
  refine q_iload_n (pc := 0) C dX5_get_0 rfl 1 rfl ?_
  refine q_if_lt (pc := 1) (tgt := 21) C dX5_get_1 (by decide) (fun c1 => ?_) (fun c1 => ?_)
  · replace hm := hm_t c1 hm
    refine q_iconst (pc := 21) (v := (-1 : Int32)) C dX5_get_21 (by decide) ?_
    cases hm
    exact q_iret (pc := 22) C dX5_get_22
  · replace hm := hm_f c1 hm
    refine q_iload_n (pc := 4) C dX5_get_4 rfl 1 rfl ?_
    refine q_aload_n (pc := 5) C dX5_get_5 rfl 0 rfl ?_
    refine q_get (pc := 6) (T := TX5) (v := .int (S 9 2)) C (by decide) (ce_9 _ _ _) (ci := 5) rfl inlX5 (j := 2) (by decide) rfl tw_127 (Or.inl rfl) dX5_get_6 ?_
    refine q_icmp_ge (pc := 9) (tgt := 21) C dX5_get_9 (by decide) (fun c2 => ?_) (fun c2 => ?_)
    · replace hm := hm_t c2 hm
      refine q_iconst (pc := 21) (v := (-1 : Int32)) C dX5_get_21 (by decide) ?_
      cases hm
      exact q_iret (pc := 22) C dX5_get_22
    · replace hm := hm_f c2 hm
      refine q_aload_n (pc := 12) C dX5_get_12 rfl 0 rfl ?_
      refine q_get (pc := 13) (T := TX5) (v := .ref (gad G 10)) C (by decide) (ce_9 _ _ _) (ci := 5) rfl inlX5 (j := 0) (by decide) rfl tw_49 (Or.inl rfl) dX5_get_13 ?_
      refine q_iload_n (pc := 16) C dX5_get_16 rfl 1 rfl ?_
      obtain ⟨b1, hm⟩ := oi_some hm
      refine q_iald (pc := 17) C (by decide) (ce_10 _ _ _) (ty_10 _) b1 dX5_get_17 ?_
      refine q_goto (pc := 18) (tgt := 22) C dX5_get_18 (by decide) ?_
      cases hm
      exact q_iret (pc := 22) C dX5_get_22
set_option maxRecDepth 100000 in
theorem w_Gr_addNamedBy_9_L2 {G : Gx} (hi : qinj (gad G)) {X : Cx} (C : QC G X cX2_addNamedBy 4 RX2 1 22 none) {Q : State → Prop} : ∀ (n : Nat) (S : St) (v1 : Int32) (v3 : Int32) (S9 : St), m_Gr_addNamedBy_L2 9 n S v1 v3 = some S9 → QW G X 4 Q 27 [] [] S9 → QW G X 4 Q 2 [(0, .ref (gad G 1)), (1, .int v1), (2, .ref (gad G 9)), (3, .int v3)] [] S := by
  intro n
  induction n with
  | zero =>
    intro S v1 v3 S9 hm kk
    rw [m_Gr_addNamedBy_L2] at hm
    cases hm
  | succ n ih =>
    intro S v1 v3 S9 hm kk
    rw [m_Gr_addNamedBy_L2] at hm
    refine q_iload_n (pc := 2) C dX2_addNamedBy_2 rfl 3 rfl ?_
    refine q_aload_n (pc := 3) C dX2_addNamedBy_3 rfl 0 rfl ?_
    refine q_iload_n (pc := 4) C dX2_addNamedBy_4 rfl 1 rfl ?_
    obtain ⟨r1, h1, hm⟩ := o1_some hm
    refine q_callV (pc := 5) (k := 1) (As := [.int v1]) (rest := [.int v3]) (T := TX2) C (c_Gr_fieldsOf hi h1) (by decide) (ce_1 _ _ _) (ci := 2) rfl tw_278 tw_279 tw_280 tw_13 tw_281 (by decide +kernel) (by decide) (by decide) rfl dX2_addNamedBy_5 ?_
    refine q_icmp_ge (pc := 8) (tgt := 27) C dX2_addNamedBy_8 (by decide) (fun c1 => ?_) (fun c1 => ?_)
    · replace hm := hm_t c1 hm
      cases hm
      refine q_lv (lv' := []) [] rfl ?_
      exact kk
    · replace hm := hm_f c1 hm
      refine q_aload_n (pc := 11) C dX2_addNamedBy_11 rfl 2 rfl ?_
      refine q_aload_n (pc := 12) C dX2_addNamedBy_12 rfl 0 rfl ?_
      refine q_iload_n (pc := 13) C dX2_addNamedBy_13 rfl 1 rfl ?_
      refine q_iload_n (pc := 14) C dX2_addNamedBy_14 rfl 3 rfl ?_
      obtain ⟨r2, h2, hm⟩ := o1_some hm
      refine q_callV (pc := 15) (k := 1) (As := [.int v1, .int v3]) (rest := [.ref (gad G 9)]) (T := TX2) C (c_Gr_nameOf hi h2) (by decide) (ce_1 _ _ _) (ci := 2) rfl tw_282 tw_283 tw_284 tw_13 tw_285 (by decide +kernel) (by decide) (by decide) rfl dX2_addNamedBy_15 ?_
      obtain ⟨S1, h3, hm⟩ := o1_some hm
      refine q_callV (pc := 18) (k := 9) (As := [.int r2]) (rest := []) (T := TX5) C (c_Row_add_9 hi h3) (by decide) (ce_9 _ _ _) (ci := 5) rfl tw_266 tw_267 tw_268 tw_43 tw_269 (by decide +kernel) (by decide) (by decide) rfl dX2_addNamedBy_18 ?_
      refine q_iinc (pc := 21) (k := 3) (v := (v3 + (1 : Int32))) (lv' := [(3, .int (v3 + (1 : Int32))), (0, .ref (gad G 1)), (1, .int v1), (2, .ref (gad G 9))]) C dX2_addNamedBy_21 rfl rfl (by decide) rfl ?_
      refine q_goto (pc := 24) (tgt := 2) C dX2_addNamedBy_24 (by decide) ?_
      refine q_lv (lv' := [(0, .ref (gad G 1)), (1, .int v1), (2, .ref (gad G 9)), (3, .int (v3 + (1 : Int32)))]) [1, 2, 3, 0] rfl ?_
      exact ih _ _ _ _ hm kk
set_option maxRecDepth 100000 in
theorem c_Gr_addNamedBy_9 {G : Gx} (hi : qinj (gad G)) {S : St} {a1 : Int32} {S9 : St} (hm : m_Gr_addNamedBy 9 S a1 = some S9) : QMet G yX2_addNamedBy cX2_addNamedBy 4 none 1 22 [.ref (gad G 1), .int a1, .ref (gad G 9)] S none S9 := by
  refine q_entry (by decide +kernel) rfl hi (by decide) ?_
  intro X C
  refine q_lv (lv' := [(0, .ref (gad G 1)), (1, .int a1), (2, .ref (gad G 9))]) [0, 1, 2] rfl ?_
  unfold m_Gr_addNamedBy at hm
  refine q_iconst (pc := 0) (v := (0 : Int32)) C dX2_addNamedBy_0 (by decide) ?_
  refine q_istore_n (pc := 1) (lv' := [(3, .int (0 : Int32)), (0, .ref (gad G 1)), (1, .int a1), (2, .ref (gad G 9))]) C dX2_addNamedBy_1 rfl (by decide) rfl ?_
  refine q_lv (lv' := [(0, .ref (gad G 1)), (1, .int a1), (2, .ref (gad G 9)), (3, .int (0 : Int32))]) [1, 2, 3, 0] rfl ?_
  obtain ⟨S1, h1, hm⟩ := o1_some hm
  refine w_Gr_addNamedBy_9_L2 hi C 200 _ _ _ _ h1 ?_
  cases hm
  exact q_vret (pc := 27) C dX2_addNamedBy_27
set_option maxRecDepth 100000 in
theorem w_Gr_trace_9_L6 {G : Gx} (hi : qinj (gad G)) {X : Cx} (C : QC G X cX2_trace 4 RX2 2 45 none) {Q : State → Prop} : ∀ (n : Nat) (S : St) (v2 : Int32) (v3 : Int32) (S9 : St), m_Gr_trace_L6 9 n S v2 v3 = some S9 → QW G X 4 Q 33 [(0, .ref (gad G 1)), (1, .ref (gad G 9))] [] S9 → QW G X 4 Q 6 [(0, .ref (gad G 1)), (1, .ref (gad G 9)), (2, .int v2), (3, .int v3)] [] S := by
  intro n
  induction n with
  | zero =>
    intro S v2 v3 S9 hm kk
    rw [m_Gr_trace_L6] at hm
    cases hm
  | succ n ih =>
    intro S v2 v3 S9 hm kk
    rw [m_Gr_trace_L6] at hm
    refine q_iload_n (pc := 6) C dX2_trace_6 rfl 3 rfl ?_
    refine q_bipush (pc := 7) (v := (6 : Int32)) C dX2_trace_7 (by decide) ?_
    refine q_icmp_ge (pc := 9) (tgt := 33) C dX2_trace_9 (by decide) (fun c1 => ?_) (fun c1 => ?_)
    · replace hm := hm_t c1 hm
      cases hm
      refine q_lv (lv' := [(0, .ref (gad G 1)), (1, .ref (gad G 9))]) [0, 1] rfl ?_
      exact kk
    · replace hm := hm_f c1 hm
      refine q_iload_n (pc := 12) C dX2_trace_12 rfl 3 rfl ?_
      refine q_iload_n (pc := 13) C dX2_trace_13 rfl 2 rfl ?_
      refine q_icmp_eq (pc := 14) (tgt := 27) C dX2_trace_14 (by decide) (fun c2 => ?_) (fun c2 => ?_)
      · replace hm := hm_t c2 hm
        refine q_iinc (pc := 27) (k := 3) (v := (v3 + (1 : Int32))) (lv' := [(3, .int (v3 + (1 : Int32))), (0, .ref (gad G 1)), (1, .ref (gad G 9)), (2, .int v2)]) C dX2_trace_27 rfl rfl (by decide) rfl ?_
        refine q_goto (pc := 30) (tgt := 6) C dX2_trace_30 (by decide) ?_
        refine q_lv (lv' := [(0, .ref (gad G 1)), (1, .ref (gad G 9)), (2, .int v2), (3, .int (v3 + (1 : Int32)))]) [1, 2, 3, 0] rfl ?_
        exact ih _ _ _ _ hm kk
      · replace hm := hm_f c2 hm
        refine q_aload_n (pc := 17) C dX2_trace_17 rfl 1 rfl ?_
        refine q_aload_n (pc := 18) C dX2_trace_18 rfl 0 rfl ?_
        refine q_get (pc := 19) (T := TX2) (v := .ref (gad G 4)) C (by decide) (ce_1 _ _ _) (ci := 2) rfl inlX2 (j := 2) (by decide) rfl tw_39 (Or.inl rfl) dX2_trace_19 ?_
        refine q_iload_n (pc := 22) C dX2_trace_22 rfl 3 rfl ?_
        obtain ⟨b1, hm⟩ := oi_some hm
        refine q_iald (pc := 23) C (by decide) (ce_4 _ _ _) (ty_4 _) b1 dX2_trace_23 ?_
        obtain ⟨S1, h1, hm⟩ := o1_some hm
        refine q_callV (pc := 24) (k := 9) (As := [.int (S 4 v3.toNatClampNeg)]) (rest := []) (T := TX5) C (c_Row_add_9 hi h1) (by decide) (ce_9 _ _ _) (ci := 5) rfl tw_266 tw_267 tw_268 tw_43 tw_269 (by decide +kernel) (by decide) (by decide) rfl dX2_trace_24 ?_
        refine q_iinc (pc := 27) (k := 3) (v := (v3 + (1 : Int32))) (lv' := [(3, .int (v3 + (1 : Int32))), (0, .ref (gad G 1)), (1, .ref (gad G 9)), (2, .int v2)]) C dX2_trace_27 rfl rfl (by decide) rfl ?_
        refine q_goto (pc := 30) (tgt := 6) C dX2_trace_30 (by decide) ?_
        refine q_lv (lv' := [(0, .ref (gad G 1)), (1, .ref (gad G 9)), (2, .int v2), (3, .int (v3 + (1 : Int32)))]) [1, 2, 3, 0] rfl ?_
        exact ih _ _ _ _ hm kk
set_option maxRecDepth 100000 in
theorem w_Gr_trace_9_L35 {G : Gx} (hi : qinj (gad G)) {X : Cx} (C : QC G X cX2_trace 4 RX2 2 45 none) {Q : State → Prop} : ∀ (n : Nat) (S : St) (v3 : Int32) (S9 : St), m_Gr_trace_L35 9 n S v3 = some S9 → QW G X 4 Q 65 [] [] S9 → QW G X 4 Q 35 [(0, .ref (gad G 1)), (1, .ref (gad G 9)), (3, .int v3)] [] S := by
  intro n
  induction n with
  | zero =>
    intro S v3 S9 hm kk
    rw [m_Gr_trace_L35] at hm
    cases hm
  | succ n ih =>
    intro S v3 S9 hm kk
    rw [m_Gr_trace_L35] at hm
    refine q_iload_n (pc := 35) C dX2_trace_35 rfl 2 rfl ?_
    refine q_aload_n (pc := 36) C dX2_trace_36 rfl 1 rfl ?_
    refine q_get (pc := 37) (T := TX5) (v := .int (S 9 2)) C (by decide) (ce_9 _ _ _) (ci := 5) rfl inlX5 (j := 2) (by decide) rfl tw_265 (Or.inl rfl) dX2_trace_37 ?_
    refine q_icmp_ge (pc := 40) (tgt := 65) C dX2_trace_40 (by decide) (fun c1 => ?_) (fun c1 => ?_)
    · replace hm := hm_t c1 hm
      cases hm
      refine q_lv (lv' := []) [] rfl ?_
      exact kk
    · replace hm := hm_f c1 hm
      refine q_iload_n (pc := 43) C dX2_trace_43 rfl 2 rfl ?_
      refine q_bipush (pc := 44) (v := (80 : Int32)) C dX2_trace_44 (by decide) ?_
      refine q_icmp_ge (pc := 46) (tgt := 65) C dX2_trace_46 (by decide) (fun c2 => ?_) (fun c2 => ?_)
      · replace hm := hm_t c2 hm
        cases hm
        refine q_lv (lv' := []) [] rfl ?_
        exact kk
      · replace hm := hm_f c2 hm
        refine q_aload_n (pc := 49) C dX2_trace_49 rfl 0 rfl ?_
        refine q_aload_n (pc := 50) C dX2_trace_50 rfl 1 rfl ?_
        refine q_iload_n (pc := 51) C dX2_trace_51 rfl 2 rfl ?_
        obtain ⟨r1, h1, hm⟩ := o1_some hm
        refine q_callV (pc := 52) (k := 9) (As := [.int v3]) (rest := [.ref (gad G 1)]) (T := TX5) C (c_Row_get_9 hi h1) (by decide) (ce_9 _ _ _) (ci := 5) rfl tw_270 tw_271 tw_272 tw_43 tw_273 (by decide +kernel) (by decide) (by decide) rfl dX2_trace_52 ?_
        refine q_aload_n (pc := 55) C dX2_trace_55 rfl 1 rfl ?_
        obtain ⟨S1, h2, hm⟩ := o1_some hm
        refine q_callV (pc := 56) (k := 1) (As := [.int r1, .ref (gad G 9)]) (rest := []) (T := TX2) C (c_Gr_addNamedBy_9 hi h2) (by decide) (ce_1 _ _ _) (ci := 2) rfl tw_274 tw_275 tw_276 tw_13 tw_277 (by decide +kernel) (by decide) (by decide) rfl dX2_trace_56 ?_
        refine q_iinc (pc := 59) (k := 2) (v := (v3 + (1 : Int32))) (lv' := [(3, .int (v3 + (1 : Int32))), (0, .ref (gad G 1)), (1, .ref (gad G 9))]) C dX2_trace_59 rfl rfl (by decide) rfl ?_
        refine q_goto (pc := 62) (tgt := 35) C dX2_trace_62 (by decide) ?_
        refine q_lv (lv' := [(0, .ref (gad G 1)), (1, .ref (gad G 9)), (3, .int (v3 + (1 : Int32)))]) [1, 2, 0] rfl ?_
        exact ih _ _ _ hm kk
set_option maxRecDepth 100000 in
theorem c_Gr_trace_9 {G : Gx} (hi : qinj (gad G)) {S : St} {a2 : Int32} {S9 : St} (hm : m_Gr_trace 9 S a2 = some S9) : QMet G yX2_trace cX2_trace 4 none 2 45 [.ref (gad G 1), .ref (gad G 9), .int a2] S none S9 := by
  refine q_entry (by decide +kernel) rfl hi (by decide) ?_
  intro X C
  refine q_lv (lv' := [(0, .ref (gad G 1)), (1, .ref (gad G 9)), (2, .int a2)]) [0, 1, 2] rfl ?_
  unfold m_Gr_trace at hm
  refine q_aload_n (pc := 0) C dX2_trace_0 rfl 1 rfl ?_
  obtain ⟨S1, h1, hm⟩ := o1_some hm
  refine q_callV (pc := 1) (k := 9) (As := []) (rest := []) (T := TX5) C (c_Row_empty_9 hi h1) (by decide) (ce_9 _ _ _) (ci := 5) rfl tw_123 tw_124 tw_125 tw_43 tw_126 (by decide +kernel) (by decide) (by decide) rfl dX2_trace_1 ?_
  refine q_iconst (pc := 4) (v := (0 : Int32)) C dX2_trace_4 (by decide) ?_
  refine q_istore_n (pc := 5) (lv' := [(3, .int (0 : Int32)), (0, .ref (gad G 1)), (1, .ref (gad G 9)), (2, .int a2)]) C dX2_trace_5 rfl (by decide) rfl ?_
  refine q_lv (lv' := [(0, .ref (gad G 1)), (1, .ref (gad G 9)), (2, .int a2), (3, .int (0 : Int32))]) [1, 2, 3, 0] rfl ?_
  obtain ⟨S2, h2, hm⟩ := o1_some hm
  refine w_Gr_trace_9_L6 hi C 200 _ _ _ _ h2 ?_
  refine q_iconst (pc := 33) (v := (0 : Int32)) C dX2_trace_33 (by decide) ?_
  refine q_istore_n (pc := 34) (lv' := [(3, .int (0 : Int32)), (0, .ref (gad G 1)), (1, .ref (gad G 9))]) C dX2_trace_34 rfl (by decide) rfl ?_
  refine q_lv (lv' := [(0, .ref (gad G 1)), (1, .ref (gad G 9)), (3, .int (0 : Int32))]) [1, 2, 0] rfl ?_
  obtain ⟨S3, h3, hm⟩ := o1_some hm
  refine w_Gr_trace_9_L35 hi C 200 _ _ _ h3 ?_
  cases hm
  exact q_vret (pc := 65) C dX2_trace_65
set_option maxRecDepth 100000 in
theorem c_Gr_countLostWithout {G : Gx} (hi : qinj (gad G)) {S : St} {a1 : Int32} {r9 : Int32} {S9 : St} (hm : m_Gr_countLostWithout S a1 = some (r9, S9)) : QMet G yX2_countLostWithout cX2_countLostWithout 2 (some .int) 3 68 [.ref (gad G 1), .int a1] S (some (.int r9)) S9 := by
  refine q_entry (by decide +kernel) rfl hi (by decide) ?_
  intro X C
  refine q_lv (lv' := [(0, .ref (gad G 1)), (1, .int a1)]) [0, 1] rfl ?_
  unfold m_Gr_countLostWithout at hm
  refine q_aload_n (pc := 0) C dX2_countLostWithout_0 rfl 0 rfl ?_
  refine q_aload_n (pc := 1) C dX2_countLostWithout_1 rfl 0 rfl ?_
  refine q_get (pc := 2) (T := TX2) (v := .ref (gad G 9)) C (by decide) (ce_1 _ _ _) (ci := 2) rfl inlX2 (j := 5) (by decide) rfl tw_45 (Or.inl rfl) dX2_countLostWithout_2 ?_
  refine q_iload_n (pc := 5) C dX2_countLostWithout_5 rfl 1 rfl ?_
  obtain ⟨S1, h1, hm⟩ := o1_some hm
  refine q_callV (pc := 6) (k := 1) (As := [.ref (gad G 9), .int a1]) (rest := []) (T := TX2) C (c_Gr_trace_9 hi h1) (by decide) (ce_1 _ _ _) (ci := 2) rfl tw_598 tw_262 tw_263 tw_13 tw_264 (by decide +kernel) (by decide) (by decide) rfl dX2_countLostWithout_6 ?_
  refine q_aload_n (pc := 9) C dX2_countLostWithout_9 rfl 0 rfl ?_
  refine q_get (pc := 10) (T := TX2) (v := .ref (gad G 6)) C (by decide) (ce_1 _ _ _) (ci := 2) rfl inlX2 (j := 4) (by decide) rfl tw_44 (Or.inl rfl) dX2_countLostWithout_10 ?_
  refine q_get (pc := 13) (T := TX5) (v := .int (S1 6 2)) C (by decide) (ce_6 _ _ _) (ci := 5) rfl inlX5 (j := 2) (by decide) rfl tw_265 (Or.inl rfl) dX2_countLostWithout_13 ?_
  refine q_aload_n (pc := 16) C dX2_countLostWithout_16 rfl 0 rfl ?_
  refine q_get (pc := 17) (T := TX2) (v := .ref (gad G 9)) C (by decide) (ce_1 _ _ _) (ci := 2) rfl inlX2 (j := 5) (by decide) rfl tw_45 (Or.inl rfl) dX2_countLostWithout_17 ?_
  refine q_get (pc := 20) (T := TX5) (v := .int (S1 9 2)) C (by decide) (ce_9 _ _ _) (ci := 5) rfl inlX5 (j := 2) (by decide) rfl tw_265 (Or.inl rfl) dX2_countLostWithout_20 ?_
  refine q_isub (pc := 23) C dX2_countLostWithout_23 ?_
  cases hm
  exact q_iret (pc := 24) C dX2_countLostWithout_24
set_option maxRecDepth 100000 in
theorem c_Te_wouldLose {G : Gx} (hi : qinj (gad G)) {S : St} {a1 : Int32} {r9 : Int32} {S9 : St} (hm : m_Te_wouldLose S a1 = some (r9, S9)) : QMet G yX8_wouldLose cX8_wouldLose 2 (some .int) 4 89 [.ref (gad G 0), .int a1] S (some (.int r9)) S9 := by
  refine q_entry (by decide +kernel) rfl hi (by decide) ?_
  intro X C
  refine q_lv (lv' := [(0, .ref (gad G 0)), (1, .int a1)]) [0, 1] rfl ?_
  unfold m_Te_wouldLose at hm
  refine q_iload_n (pc := 0) C dX8_wouldLose_0 rfl 1 rfl ?_
  obtain ⟨u1, h1, hm⟩ := o1_some hm
  refine q_callS (pc := 1) (As := [.int a1]) (rest := []) C (c_Te_checkRoot hi h1) tw_200 tw_201 tw_2 tw_202 (by decide +kernel) (by decide) (by decide) rfl dX8_wouldLose_1 ?_
  refine q_aload_n (pc := 4) C dX8_wouldLose_4 rfl 0 rfl ?_
  refine q_get (pc := 5) (T := TX8) (v := .ref (gad G 1)) C (by decide) (ce_0 _ _ _) (ci := 6) rfl inlX8 (j := 0) (by decide) rfl tw_27 (Or.inl rfl) dX8_wouldLose_5 ?_
  refine q_iload_n (pc := 8) C dX8_wouldLose_8 rfl 1 rfl ?_
  obtain ⟨r1, S1, h2, hm⟩ := ob_some hm
  refine q_callV (pc := 9) (k := 1) (As := [.int a1]) (rest := []) (T := TX2) C (c_Gr_countLostWithout hi h2) (by decide) (ce_1 _ _ _) (ci := 2) rfl tw_864 tw_865 tw_866 tw_13 tw_867 (by decide +kernel) (by decide) (by decide) rfl dX8_wouldLose_9 ?_
  cases hm
  exact q_iret (pc := 12) C dX8_wouldLose_12
set_option maxRecDepth 100000 in
theorem w_Te_digest_L16 {G : Gx} (hi : qinj (gad G)) {X : Cx} (C : QC G X cX8_digest 5 RX8 6 133 (some .long)) {Q : State → Prop} : ∀ (n : Nat) (S : St) (v1 : Int64) (v3 : Int32) (x1 : Int64), m_Te_digest_L16 n S v1 v3 = some x1 → QW G X 5 Q 40 [(0, .ref (gad G 0)), (1, .long x1)] [] S → QW G X 5 Q 16 [(0, .ref (gad G 0)), (1, .long v1), (3, .int v3)] [] S := by
  intro n
  induction n with
  | zero =>
    intro S v1 v3 x1 hm kk
    rw [m_Te_digest_L16] at hm
    cases hm
  | succ n ih =>
    intro S v1 v3 x1 hm kk
    rw [m_Te_digest_L16] at hm
    refine q_iload_n (pc := 16) C dX8_digest_16 rfl 2 rfl ?_
    refine q_aload_n (pc := 17) C dX8_digest_17 rfl 0 rfl ?_
    refine q_get (pc := 18) (T := TX8) (v := .ref (gad G 1)) C (by decide) (ce_0 _ _ _) (ci := 6) rfl inlX8 (j := 0) (by decide) rfl tw_27 (Or.inl rfl) dX8_digest_18 ?_
    refine q_get (pc := 21) (T := TX2) (v := .int (S 1 6)) C (by decide) (ce_1 _ _ _) (ci := 2) rfl inlX2 (j := 6) (by decide) rfl tw_192 (Or.inl rfl) dX8_digest_21 ?_
    refine q_icmp_ge (pc := 24) (tgt := 40) C dX8_digest_24 (by decide) (fun c1 => ?_) (fun c1 => ?_)
    · replace hm := hm_t c1 hm
      cases hm
      refine q_lv (lv' := [(0, .ref (gad G 0)), (1, .long v1)]) [0, 1] rfl ?_
      exact kk
    · replace hm := hm_f c1 hm
      refine q_aload_n (pc := 27) C dX8_digest_27 rfl 0 rfl ?_
      refine q_lload_n (pc := 28) C dX8_digest_28 rfl 1 rfl ?_
      refine q_iload_n (pc := 29) C dX8_digest_29 rfl 2 rfl ?_
      obtain ⟨r1, h1, hm⟩ := o1_some hm
      refine q_callV (pc := 30) (k := 0) (As := [.long v1, .int v3]) (rest := []) (T := TX8) C (c_Te_mixedThing hi h1) (by decide) (ce_0 _ _ _) (ci := 6) rfl tw_791 tw_792 tw_793 tw_2 tw_794 (by decide +kernel) (by decide) (by decide) rfl dX8_digest_30 ?_
      refine q_lstore_n (pc := 33) (lv' := [(1, .long r1), (0, .ref (gad G 0)), (3, .int v3)]) C dX8_digest_33 rfl (by decide) rfl ?_
      refine q_iinc (pc := 34) (k := 2) (v := (v3 + (1 : Int32))) (lv' := [(3, .int (v3 + (1 : Int32))), (1, .long r1), (0, .ref (gad G 0))]) C dX8_digest_34 rfl rfl (by decide) rfl ?_
      refine q_goto (pc := 37) (tgt := 16) C dX8_digest_37 (by decide) ?_
      refine q_lv (lv' := [(0, .ref (gad G 0)), (1, .long r1), (3, .int (v3 + (1 : Int32)))]) [2, 1, 0] rfl ?_
      exact ih _ _ _ _ hm kk
set_option maxRecDepth 100000 in
theorem c_Te_digest {G : Gx} (hi : qinj (gad G)) {S : St}  {r9 : Int64} {S9 : St} (hm : m_Te_digest S  = some (r9, S9)) : QMet G yX8_digest cX8_digest 5 (some .long) 6 133 [.ref (gad G 0)] S (some (.long r9)) S9 := by
  refine q_entry (by decide +kernel) rfl hi (by decide) ?_
  intro X C
  refine q_lv (lv' := [(0, .ref (gad G 0))]) [0] rfl ?_
  unfold m_Te_digest at hm
  refine q_ldc2 (pc := 0) (v := 58088) C tw_786 dX8_digest_0 ?_
  refine q_aload_n (pc := 3) C dX8_digest_3 rfl 0 rfl ?_
  refine q_get (pc := 4) (T := TX8) (v := .ref (gad G 1)) C (by decide) (ce_0 _ _ _) (ci := 6) rfl inlX8 (j := 0) (by decide) rfl tw_27 (Or.inl rfl) dX8_digest_4 ?_
  refine q_get (pc := 7) (T := TX2) (v := .int (S 1 6)) C (by decide) (ce_1 _ _ _) (ci := 2) rfl inlX2 (j := 6) (by decide) rfl tw_192 (Or.inl rfl) dX8_digest_7 ?_
  obtain ⟨r1, h1, hm⟩ := o1_some hm
  refine q_callS (pc := 10) (As := [.long (58088 : Int64), .int (S 1 6)]) (rest := []) C (c_Te_mixed hi h1) tw_787 tw_788 tw_2 tw_789 (by decide +kernel) (by decide) (by decide) rfl dX8_digest_10 ?_
  refine q_lstore_n (pc := 13) (lv' := [(1, .long r1), (0, .ref (gad G 0))]) C dX8_digest_13 rfl (by decide) rfl ?_
  refine q_iconst (pc := 14) (v := (0 : Int32)) C dX8_digest_14 (by decide) ?_
  refine q_istore_n (pc := 15) (lv' := [(3, .int (0 : Int32)), (1, .long r1), (0, .ref (gad G 0))]) C dX8_digest_15 rfl (by decide) rfl ?_
  refine q_lv (lv' := [(0, .ref (gad G 0)), (1, .long r1), (3, .int (0 : Int32))]) [2, 1, 0] rfl ?_
  obtain ⟨y1, h2, hm⟩ := o1_some hm
  refine w_Te_digest_L16 hi C 200 _ _ _ _ h2 ?_
  refine q_iconst (pc := 40) (v := (0 : Int32)) C dX8_digest_40 (by decide) ?_
  refine q_istore_n (pc := 41) (lv' := [(3, .int (0 : Int32)), (0, .ref (gad G 0)), (1, .long y1)]) C dX8_digest_41 rfl (by decide) rfl ?_
  refine q_iload_n (pc := 42) C dX8_digest_42 rfl 0 rfl ?_
  refine q_iconst (pc := 43) (v := (4 : Int32)) C dX8_digest_43 (by decide) ?_
  refine q_icmp_ge (pc := 44) (tgt := 101) C dX8_digest_44 (by decide) (fun c => absurd c (by decide)) (fun _ => ?_)
  refine q_iconst (pc := 47) (v := (0 : Int32)) C dX8_digest_47 (by decide) ?_
  refine q_istore (pc := 48) (lv' := [(4, .int (0 : Int32)), (3, .int (0 : Int32)), (0, .ref (gad G 0)), (1, .long y1)]) C dX8_digest_48 (by decide) rfl ?_
  refine q_iload (pc := 50) C dX8_digest_50 0 rfl ?_
  refine q_bipush (pc := 52) (v := (7 : Int32)) C dX8_digest_52 (by decide) ?_
  refine q_icmp_gt (pc := 54) (tgt := 75) C dX8_digest_54 (by decide) (fun c => absurd c (by decide)) (fun _ => ?_)
  refine q_lload_n (pc := 57) C dX8_digest_57 rfl 3 rfl ?_
  refine q_aload_n (pc := 58) C dX8_digest_58 rfl 2 rfl ?_
  refine q_iload_n (pc := 59) C dX8_digest_59 rfl 1 rfl ?_
  refine q_iload (pc := 60) C dX8_digest_60 0 rfl ?_
  obtain ⟨r2, S1, h3, hm⟩ := ob_some hm
  refine q_callV (pc := 62) (k := 0) (As := [.int (0 : Int32), .int (0 : Int32)]) (rest := [.long y1]) (T := TX8) C (c_Te_told hi h3) (by decide) (ce_0 _ _ _) (ci := 6) rfl tw_797 tw_710 tw_711 tw_2 tw_712 (by decide +kernel) (by decide) (by decide) rfl dX8_digest_62 ?_
  obtain ⟨r3, h4, hm⟩ := o1_some hm
  refine q_callS (pc := 65) (As := [.long y1, .int r2]) (rest := []) C (c_Te_mixed hi h4) tw_787 tw_788 tw_2 tw_789 (by decide +kernel) (by decide) (by decide) rfl dX8_digest_65 ?_
  refine q_lstore_n (pc := 68) (lv' := [(1, .long r3), (4, .int (0 : Int32)), (3, .int (0 : Int32)), (0, .ref (gad G 0))]) C dX8_digest_68 rfl (by decide) rfl ?_
  refine q_iinc (pc := 69) (k := 1) (v := (1 : Int32)) (lv' := [(4, .int (1 : Int32)), (1, .long r3), (3, .int (0 : Int32)), (0, .ref (gad G 0))]) C dX8_digest_69 rfl (by decide) (by decide) rfl ?_
  refine q_goto (pc := 72) (tgt := 50) C dX8_digest_72 (by decide) ?_
  refine q_iload (pc := 50) C dX8_digest_50 0 rfl ?_
  refine q_bipush (pc := 52) (v := (7 : Int32)) C dX8_digest_52 (by decide) ?_
  refine q_icmp_gt (pc := 54) (tgt := 75) C dX8_digest_54 (by decide) (fun c => absurd c (by decide)) (fun _ => ?_)
  refine q_lload_n (pc := 57) C dX8_digest_57 rfl 1 rfl ?_
  refine q_aload_n (pc := 58) C dX8_digest_58 rfl 3 rfl ?_
  refine q_iload_n (pc := 59) C dX8_digest_59 rfl 2 rfl ?_
  refine q_iload (pc := 60) C dX8_digest_60 0 rfl ?_
  obtain ⟨r4, S2, h5, hm⟩ := ob_some hm
  refine q_callV (pc := 62) (k := 0) (As := [.int (0 : Int32), .int (1 : Int32)]) (rest := [.long r3]) (T := TX8) C (c_Te_told hi h5) (by decide) (ce_0 _ _ _) (ci := 6) rfl tw_797 tw_710 tw_711 tw_2 tw_712 (by decide +kernel) (by decide) (by decide) rfl dX8_digest_62 ?_
  obtain ⟨r5, h6, hm⟩ := o1_some hm
  refine q_callS (pc := 65) (As := [.long r3, .int r4]) (rest := []) C (c_Te_mixed hi h6) tw_787 tw_788 tw_2 tw_789 (by decide +kernel) (by decide) (by decide) rfl dX8_digest_65 ?_
  refine q_lstore_n (pc := 68) (lv' := [(1, .long r5), (4, .int (1 : Int32)), (3, .int (0 : Int32)), (0, .ref (gad G 0))]) C dX8_digest_68 rfl (by decide) rfl ?_
  refine q_iinc (pc := 69) (k := 1) (v := (2 : Int32)) (lv' := [(4, .int (2 : Int32)), (1, .long r5), (3, .int (0 : Int32)), (0, .ref (gad G 0))]) C dX8_digest_69 rfl (by decide) (by decide) rfl ?_
  refine q_goto (pc := 72) (tgt := 50) C dX8_digest_72 (by decide) ?_
  refine q_iload (pc := 50) C dX8_digest_50 0 rfl ?_
  refine q_bipush (pc := 52) (v := (7 : Int32)) C dX8_digest_52 (by decide) ?_
  refine q_icmp_gt (pc := 54) (tgt := 75) C dX8_digest_54 (by decide) (fun c => absurd c (by decide)) (fun _ => ?_)
  refine q_lload_n (pc := 57) C dX8_digest_57 rfl 1 rfl ?_
  refine q_aload_n (pc := 58) C dX8_digest_58 rfl 3 rfl ?_
  refine q_iload_n (pc := 59) C dX8_digest_59 rfl 2 rfl ?_
  refine q_iload (pc := 60) C dX8_digest_60 0 rfl ?_
  obtain ⟨r6, S3, h7, hm⟩ := ob_some hm
  refine q_callV (pc := 62) (k := 0) (As := [.int (0 : Int32), .int (2 : Int32)]) (rest := [.long r5]) (T := TX8) C (c_Te_told hi h7) (by decide) (ce_0 _ _ _) (ci := 6) rfl tw_797 tw_710 tw_711 tw_2 tw_712 (by decide +kernel) (by decide) (by decide) rfl dX8_digest_62 ?_
  obtain ⟨r7, h8, hm⟩ := o1_some hm
  refine q_callS (pc := 65) (As := [.long r5, .int r6]) (rest := []) C (c_Te_mixed hi h8) tw_787 tw_788 tw_2 tw_789 (by decide +kernel) (by decide) (by decide) rfl dX8_digest_65 ?_
  refine q_lstore_n (pc := 68) (lv' := [(1, .long r7), (4, .int (2 : Int32)), (3, .int (0 : Int32)), (0, .ref (gad G 0))]) C dX8_digest_68 rfl (by decide) rfl ?_
  refine q_iinc (pc := 69) (k := 1) (v := (3 : Int32)) (lv' := [(4, .int (3 : Int32)), (1, .long r7), (3, .int (0 : Int32)), (0, .ref (gad G 0))]) C dX8_digest_69 rfl (by decide) (by decide) rfl ?_
  refine q_goto (pc := 72) (tgt := 50) C dX8_digest_72 (by decide) ?_
  refine q_iload (pc := 50) C dX8_digest_50 0 rfl ?_
  refine q_bipush (pc := 52) (v := (7 : Int32)) C dX8_digest_52 (by decide) ?_
  refine q_icmp_gt (pc := 54) (tgt := 75) C dX8_digest_54 (by decide) (fun c => absurd c (by decide)) (fun _ => ?_)
  refine q_lload_n (pc := 57) C dX8_digest_57 rfl 1 rfl ?_
  refine q_aload_n (pc := 58) C dX8_digest_58 rfl 3 rfl ?_
  refine q_iload_n (pc := 59) C dX8_digest_59 rfl 2 rfl ?_
  refine q_iload (pc := 60) C dX8_digest_60 0 rfl ?_
  obtain ⟨r8, S4, h9, hm⟩ := ob_some hm
  refine q_callV (pc := 62) (k := 0) (As := [.int (0 : Int32), .int (3 : Int32)]) (rest := [.long r7]) (T := TX8) C (c_Te_told hi h9) (by decide) (ce_0 _ _ _) (ci := 6) rfl tw_797 tw_710 tw_711 tw_2 tw_712 (by decide +kernel) (by decide) (by decide) rfl dX8_digest_62 ?_
  obtain ⟨r9, h10, hm⟩ := o1_some hm
  refine q_callS (pc := 65) (As := [.long r7, .int r8]) (rest := []) C (c_Te_mixed hi h10) tw_787 tw_788 tw_2 tw_789 (by decide +kernel) (by decide) (by decide) rfl dX8_digest_65 ?_
  refine q_lstore_n (pc := 68) (lv' := [(1, .long r9), (4, .int (3 : Int32)), (3, .int (0 : Int32)), (0, .ref (gad G 0))]) C dX8_digest_68 rfl (by decide) rfl ?_
  refine q_iinc (pc := 69) (k := 1) (v := (4 : Int32)) (lv' := [(4, .int (4 : Int32)), (1, .long r9), (3, .int (0 : Int32)), (0, .ref (gad G 0))]) C dX8_digest_69 rfl (by decide) (by decide) rfl ?_
  refine q_goto (pc := 72) (tgt := 50) C dX8_digest_72 (by decide) ?_
  refine q_iload (pc := 50) C dX8_digest_50 0 rfl ?_
  refine q_bipush (pc := 52) (v := (7 : Int32)) C dX8_digest_52 (by decide) ?_
  refine q_icmp_gt (pc := 54) (tgt := 75) C dX8_digest_54 (by decide) (fun c => absurd c (by decide)) (fun _ => ?_)
  refine q_lload_n (pc := 57) C dX8_digest_57 rfl 1 rfl ?_
  refine q_aload_n (pc := 58) C dX8_digest_58 rfl 3 rfl ?_
  refine q_iload_n (pc := 59) C dX8_digest_59 rfl 2 rfl ?_
  refine q_iload (pc := 60) C dX8_digest_60 0 rfl ?_
  obtain ⟨r10, S5, h11, hm⟩ := ob_some hm
  refine q_callV (pc := 62) (k := 0) (As := [.int (0 : Int32), .int (4 : Int32)]) (rest := [.long r9]) (T := TX8) C (c_Te_told hi h11) (by decide) (ce_0 _ _ _) (ci := 6) rfl tw_797 tw_710 tw_711 tw_2 tw_712 (by decide +kernel) (by decide) (by decide) rfl dX8_digest_62 ?_
  obtain ⟨r11, h12, hm⟩ := o1_some hm
  refine q_callS (pc := 65) (As := [.long r9, .int r10]) (rest := []) C (c_Te_mixed hi h12) tw_787 tw_788 tw_2 tw_789 (by decide +kernel) (by decide) (by decide) rfl dX8_digest_65 ?_
  refine q_lstore_n (pc := 68) (lv' := [(1, .long r11), (4, .int (4 : Int32)), (3, .int (0 : Int32)), (0, .ref (gad G 0))]) C dX8_digest_68 rfl (by decide) rfl ?_
  refine q_iinc (pc := 69) (k := 1) (v := (5 : Int32)) (lv' := [(4, .int (5 : Int32)), (1, .long r11), (3, .int (0 : Int32)), (0, .ref (gad G 0))]) C dX8_digest_69 rfl (by decide) (by decide) rfl ?_
  refine q_goto (pc := 72) (tgt := 50) C dX8_digest_72 (by decide) ?_
  refine q_iload (pc := 50) C dX8_digest_50 0 rfl ?_
  refine q_bipush (pc := 52) (v := (7 : Int32)) C dX8_digest_52 (by decide) ?_
  refine q_icmp_gt (pc := 54) (tgt := 75) C dX8_digest_54 (by decide) (fun c => absurd c (by decide)) (fun _ => ?_)
  refine q_lload_n (pc := 57) C dX8_digest_57 rfl 1 rfl ?_
  refine q_aload_n (pc := 58) C dX8_digest_58 rfl 3 rfl ?_
  refine q_iload_n (pc := 59) C dX8_digest_59 rfl 2 rfl ?_
  refine q_iload (pc := 60) C dX8_digest_60 0 rfl ?_
  obtain ⟨r12, S6, h13, hm⟩ := ob_some hm
  refine q_callV (pc := 62) (k := 0) (As := [.int (0 : Int32), .int (5 : Int32)]) (rest := [.long r11]) (T := TX8) C (c_Te_told hi h13) (by decide) (ce_0 _ _ _) (ci := 6) rfl tw_797 tw_710 tw_711 tw_2 tw_712 (by decide +kernel) (by decide) (by decide) rfl dX8_digest_62 ?_
  obtain ⟨r13, h14, hm⟩ := o1_some hm
  refine q_callS (pc := 65) (As := [.long r11, .int r12]) (rest := []) C (c_Te_mixed hi h14) tw_787 tw_788 tw_2 tw_789 (by decide +kernel) (by decide) (by decide) rfl dX8_digest_65 ?_
  refine q_lstore_n (pc := 68) (lv' := [(1, .long r13), (4, .int (5 : Int32)), (3, .int (0 : Int32)), (0, .ref (gad G 0))]) C dX8_digest_68 rfl (by decide) rfl ?_
  refine q_iinc (pc := 69) (k := 1) (v := (6 : Int32)) (lv' := [(4, .int (6 : Int32)), (1, .long r13), (3, .int (0 : Int32)), (0, .ref (gad G 0))]) C dX8_digest_69 rfl (by decide) (by decide) rfl ?_
  refine q_goto (pc := 72) (tgt := 50) C dX8_digest_72 (by decide) ?_
  refine q_iload (pc := 50) C dX8_digest_50 0 rfl ?_
  refine q_bipush (pc := 52) (v := (7 : Int32)) C dX8_digest_52 (by decide) ?_
  refine q_icmp_gt (pc := 54) (tgt := 75) C dX8_digest_54 (by decide) (fun c => absurd c (by decide)) (fun _ => ?_)
  refine q_lload_n (pc := 57) C dX8_digest_57 rfl 1 rfl ?_
  refine q_aload_n (pc := 58) C dX8_digest_58 rfl 3 rfl ?_
  refine q_iload_n (pc := 59) C dX8_digest_59 rfl 2 rfl ?_
  refine q_iload (pc := 60) C dX8_digest_60 0 rfl ?_
  obtain ⟨r14, S7, h15, hm⟩ := ob_some hm
  refine q_callV (pc := 62) (k := 0) (As := [.int (0 : Int32), .int (6 : Int32)]) (rest := [.long r13]) (T := TX8) C (c_Te_told hi h15) (by decide) (ce_0 _ _ _) (ci := 6) rfl tw_797 tw_710 tw_711 tw_2 tw_712 (by decide +kernel) (by decide) (by decide) rfl dX8_digest_62 ?_
  obtain ⟨r15, h16, hm⟩ := o1_some hm
  refine q_callS (pc := 65) (As := [.long r13, .int r14]) (rest := []) C (c_Te_mixed hi h16) tw_787 tw_788 tw_2 tw_789 (by decide +kernel) (by decide) (by decide) rfl dX8_digest_65 ?_
  refine q_lstore_n (pc := 68) (lv' := [(1, .long r15), (4, .int (6 : Int32)), (3, .int (0 : Int32)), (0, .ref (gad G 0))]) C dX8_digest_68 rfl (by decide) rfl ?_
  refine q_iinc (pc := 69) (k := 1) (v := (7 : Int32)) (lv' := [(4, .int (7 : Int32)), (1, .long r15), (3, .int (0 : Int32)), (0, .ref (gad G 0))]) C dX8_digest_69 rfl (by decide) (by decide) rfl ?_
  refine q_goto (pc := 72) (tgt := 50) C dX8_digest_72 (by decide) ?_
  refine q_iload (pc := 50) C dX8_digest_50 0 rfl ?_
  refine q_bipush (pc := 52) (v := (7 : Int32)) C dX8_digest_52 (by decide) ?_
  refine q_icmp_gt (pc := 54) (tgt := 75) C dX8_digest_54 (by decide) (fun c => absurd c (by decide)) (fun _ => ?_)
  refine q_lload_n (pc := 57) C dX8_digest_57 rfl 1 rfl ?_
  refine q_aload_n (pc := 58) C dX8_digest_58 rfl 3 rfl ?_
  refine q_iload_n (pc := 59) C dX8_digest_59 rfl 2 rfl ?_
  refine q_iload (pc := 60) C dX8_digest_60 0 rfl ?_
  obtain ⟨r16, S8, h17, hm⟩ := ob_some hm
  refine q_callV (pc := 62) (k := 0) (As := [.int (0 : Int32), .int (7 : Int32)]) (rest := [.long r15]) (T := TX8) C (c_Te_told hi h17) (by decide) (ce_0 _ _ _) (ci := 6) rfl tw_797 tw_710 tw_711 tw_2 tw_712 (by decide +kernel) (by decide) (by decide) rfl dX8_digest_62 ?_
  obtain ⟨r17, h18, hm⟩ := o1_some hm
  refine q_callS (pc := 65) (As := [.long r15, .int r16]) (rest := []) C (c_Te_mixed hi h18) tw_787 tw_788 tw_2 tw_789 (by decide +kernel) (by decide) (by decide) rfl dX8_digest_65 ?_
  refine q_lstore_n (pc := 68) (lv' := [(1, .long r17), (4, .int (7 : Int32)), (3, .int (0 : Int32)), (0, .ref (gad G 0))]) C dX8_digest_68 rfl (by decide) rfl ?_
  refine q_iinc (pc := 69) (k := 1) (v := (8 : Int32)) (lv' := [(4, .int (8 : Int32)), (1, .long r17), (3, .int (0 : Int32)), (0, .ref (gad G 0))]) C dX8_digest_69 rfl (by decide) (by decide) rfl ?_
  refine q_goto (pc := 72) (tgt := 50) C dX8_digest_72 (by decide) ?_
  refine q_iload (pc := 50) C dX8_digest_50 0 rfl ?_
  refine q_bipush (pc := 52) (v := (7 : Int32)) C dX8_digest_52 (by decide) ?_
  refine q_icmp_gt (pc := 54) (tgt := 75) C dX8_digest_54 (by decide) (fun _ => ?_) (fun c => absurd c (by decide))
  refine q_lload_n (pc := 75) C dX8_digest_75 rfl 1 rfl ?_
  refine q_aload_n (pc := 76) C dX8_digest_76 rfl 3 rfl ?_
  refine q_iload_n (pc := 77) C dX8_digest_77 rfl 2 rfl ?_
  obtain ⟨r18, S9, h19, hm⟩ := ob_some hm
  refine q_callV (pc := 78) (k := 0) (As := [.int (0 : Int32)]) (rest := [.long r17]) (T := TX8) C (c_Te_wouldGo hi h19) (by decide) (ce_0 _ _ _) (ci := 6) rfl tw_798 tw_799 tw_800 tw_2 tw_801 (by decide +kernel) (by decide) (by decide) rfl dX8_digest_78 ?_
  obtain ⟨r19, h20, hm⟩ := o1_some hm
  refine q_callS (pc := 81) (As := [.long r17, .int r18]) (rest := []) C (c_Te_mixed hi h20) tw_787 tw_788 tw_2 tw_789 (by decide +kernel) (by decide) (by decide) rfl dX8_digest_81 ?_
  refine q_lstore_n (pc := 84) (lv' := [(1, .long r19), (4, .int (8 : Int32)), (3, .int (0 : Int32)), (0, .ref (gad G 0))]) C dX8_digest_84 rfl (by decide) rfl ?_
  refine q_lload_n (pc := 85) C dX8_digest_85 rfl 0 rfl ?_
  refine q_aload_n (pc := 86) C dX8_digest_86 rfl 3 rfl ?_
  refine q_iload_n (pc := 87) C dX8_digest_87 rfl 2 rfl ?_
  obtain ⟨r20, S10, h21, hm⟩ := ob_some hm
  refine q_callV (pc := 88) (k := 0) (As := [.int (0 : Int32)]) (rest := [.long r19]) (T := TX8) C (c_Te_wouldWork hi h21) (by decide) (ce_0 _ _ _) (ci := 6) rfl tw_831 tw_832 tw_833 tw_2 tw_834 (by decide +kernel) (by decide) (by decide) rfl dX8_digest_88 ?_
  obtain ⟨r21, h22, hm⟩ := o1_some hm
  refine q_callS (pc := 91) (As := [.long r19, .int r20]) (rest := []) C (c_Te_mixed hi h22) tw_787 tw_788 tw_2 tw_789 (by decide +kernel) (by decide) (by decide) rfl dX8_digest_91 ?_
  refine q_lstore_n (pc := 94) (lv' := [(1, .long r21), (4, .int (8 : Int32)), (3, .int (0 : Int32)), (0, .ref (gad G 0))]) C dX8_digest_94 rfl (by decide) rfl ?_
  refine q_iinc (pc := 95) (k := 2) (v := (1 : Int32)) (lv' := [(3, .int (1 : Int32)), (1, .long r21), (4, .int (8 : Int32)), (0, .ref (gad G 0))]) C dX8_digest_95 rfl (by decide) (by decide) rfl ?_
  refine q_goto (pc := 98) (tgt := 42) C dX8_digest_98 (by decide) ?_
  refine q_iload_n (pc := 42) C dX8_digest_42 rfl 0 rfl ?_
  refine q_iconst (pc := 43) (v := (4 : Int32)) C dX8_digest_43 (by decide) ?_
  refine q_icmp_ge (pc := 44) (tgt := 101) C dX8_digest_44 (by decide) (fun c => absurd c (by decide)) (fun _ => ?_)
  refine q_iconst (pc := 47) (v := (0 : Int32)) C dX8_digest_47 (by decide) ?_
  refine q_istore (pc := 48) (lv' := [(4, .int (0 : Int32)), (3, .int (1 : Int32)), (1, .long r21), (0, .ref (gad G 0))]) C dX8_digest_48 (by decide) rfl ?_
  refine q_iload (pc := 50) C dX8_digest_50 0 rfl ?_
  refine q_bipush (pc := 52) (v := (7 : Int32)) C dX8_digest_52 (by decide) ?_
  refine q_icmp_gt (pc := 54) (tgt := 75) C dX8_digest_54 (by decide) (fun c => absurd c (by decide)) (fun _ => ?_)
  refine q_lload_n (pc := 57) C dX8_digest_57 rfl 2 rfl ?_
  refine q_aload_n (pc := 58) C dX8_digest_58 rfl 3 rfl ?_
  refine q_iload_n (pc := 59) C dX8_digest_59 rfl 1 rfl ?_
  refine q_iload (pc := 60) C dX8_digest_60 0 rfl ?_
  obtain ⟨r22, S11, h23, hm⟩ := ob_some hm
  refine q_callV (pc := 62) (k := 0) (As := [.int (1 : Int32), .int (0 : Int32)]) (rest := [.long r21]) (T := TX8) C (c_Te_told hi h23) (by decide) (ce_0 _ _ _) (ci := 6) rfl tw_797 tw_710 tw_711 tw_2 tw_712 (by decide +kernel) (by decide) (by decide) rfl dX8_digest_62 ?_
  obtain ⟨r23, h24, hm⟩ := o1_some hm
  refine q_callS (pc := 65) (As := [.long r21, .int r22]) (rest := []) C (c_Te_mixed hi h24) tw_787 tw_788 tw_2 tw_789 (by decide +kernel) (by decide) (by decide) rfl dX8_digest_65 ?_
  refine q_lstore_n (pc := 68) (lv' := [(1, .long r23), (4, .int (0 : Int32)), (3, .int (1 : Int32)), (0, .ref (gad G 0))]) C dX8_digest_68 rfl (by decide) rfl ?_
  refine q_iinc (pc := 69) (k := 1) (v := (1 : Int32)) (lv' := [(4, .int (1 : Int32)), (1, .long r23), (3, .int (1 : Int32)), (0, .ref (gad G 0))]) C dX8_digest_69 rfl (by decide) (by decide) rfl ?_
  refine q_goto (pc := 72) (tgt := 50) C dX8_digest_72 (by decide) ?_
  refine q_iload (pc := 50) C dX8_digest_50 0 rfl ?_
  refine q_bipush (pc := 52) (v := (7 : Int32)) C dX8_digest_52 (by decide) ?_
  refine q_icmp_gt (pc := 54) (tgt := 75) C dX8_digest_54 (by decide) (fun c => absurd c (by decide)) (fun _ => ?_)
  refine q_lload_n (pc := 57) C dX8_digest_57 rfl 1 rfl ?_
  refine q_aload_n (pc := 58) C dX8_digest_58 rfl 3 rfl ?_
  refine q_iload_n (pc := 59) C dX8_digest_59 rfl 2 rfl ?_
  refine q_iload (pc := 60) C dX8_digest_60 0 rfl ?_
  obtain ⟨r24, S12, h25, hm⟩ := ob_some hm
  refine q_callV (pc := 62) (k := 0) (As := [.int (1 : Int32), .int (1 : Int32)]) (rest := [.long r23]) (T := TX8) C (c_Te_told hi h25) (by decide) (ce_0 _ _ _) (ci := 6) rfl tw_797 tw_710 tw_711 tw_2 tw_712 (by decide +kernel) (by decide) (by decide) rfl dX8_digest_62 ?_
  obtain ⟨r25, h26, hm⟩ := o1_some hm
  refine q_callS (pc := 65) (As := [.long r23, .int r24]) (rest := []) C (c_Te_mixed hi h26) tw_787 tw_788 tw_2 tw_789 (by decide +kernel) (by decide) (by decide) rfl dX8_digest_65 ?_
  refine q_lstore_n (pc := 68) (lv' := [(1, .long r25), (4, .int (1 : Int32)), (3, .int (1 : Int32)), (0, .ref (gad G 0))]) C dX8_digest_68 rfl (by decide) rfl ?_
  refine q_iinc (pc := 69) (k := 1) (v := (2 : Int32)) (lv' := [(4, .int (2 : Int32)), (1, .long r25), (3, .int (1 : Int32)), (0, .ref (gad G 0))]) C dX8_digest_69 rfl (by decide) (by decide) rfl ?_
  refine q_goto (pc := 72) (tgt := 50) C dX8_digest_72 (by decide) ?_
  refine q_iload (pc := 50) C dX8_digest_50 0 rfl ?_
  refine q_bipush (pc := 52) (v := (7 : Int32)) C dX8_digest_52 (by decide) ?_
  refine q_icmp_gt (pc := 54) (tgt := 75) C dX8_digest_54 (by decide) (fun c => absurd c (by decide)) (fun _ => ?_)
  refine q_lload_n (pc := 57) C dX8_digest_57 rfl 1 rfl ?_
  refine q_aload_n (pc := 58) C dX8_digest_58 rfl 3 rfl ?_
  refine q_iload_n (pc := 59) C dX8_digest_59 rfl 2 rfl ?_
  refine q_iload (pc := 60) C dX8_digest_60 0 rfl ?_
  obtain ⟨r26, S13, h27, hm⟩ := ob_some hm
  refine q_callV (pc := 62) (k := 0) (As := [.int (1 : Int32), .int (2 : Int32)]) (rest := [.long r25]) (T := TX8) C (c_Te_told hi h27) (by decide) (ce_0 _ _ _) (ci := 6) rfl tw_797 tw_710 tw_711 tw_2 tw_712 (by decide +kernel) (by decide) (by decide) rfl dX8_digest_62 ?_
  obtain ⟨r27, h28, hm⟩ := o1_some hm
  refine q_callS (pc := 65) (As := [.long r25, .int r26]) (rest := []) C (c_Te_mixed hi h28) tw_787 tw_788 tw_2 tw_789 (by decide +kernel) (by decide) (by decide) rfl dX8_digest_65 ?_
  refine q_lstore_n (pc := 68) (lv' := [(1, .long r27), (4, .int (2 : Int32)), (3, .int (1 : Int32)), (0, .ref (gad G 0))]) C dX8_digest_68 rfl (by decide) rfl ?_
  refine q_iinc (pc := 69) (k := 1) (v := (3 : Int32)) (lv' := [(4, .int (3 : Int32)), (1, .long r27), (3, .int (1 : Int32)), (0, .ref (gad G 0))]) C dX8_digest_69 rfl (by decide) (by decide) rfl ?_
  refine q_goto (pc := 72) (tgt := 50) C dX8_digest_72 (by decide) ?_
  refine q_iload (pc := 50) C dX8_digest_50 0 rfl ?_
  refine q_bipush (pc := 52) (v := (7 : Int32)) C dX8_digest_52 (by decide) ?_
  refine q_icmp_gt (pc := 54) (tgt := 75) C dX8_digest_54 (by decide) (fun c => absurd c (by decide)) (fun _ => ?_)
  refine q_lload_n (pc := 57) C dX8_digest_57 rfl 1 rfl ?_
  refine q_aload_n (pc := 58) C dX8_digest_58 rfl 3 rfl ?_
  refine q_iload_n (pc := 59) C dX8_digest_59 rfl 2 rfl ?_
  refine q_iload (pc := 60) C dX8_digest_60 0 rfl ?_
  obtain ⟨r28, S14, h29, hm⟩ := ob_some hm
  refine q_callV (pc := 62) (k := 0) (As := [.int (1 : Int32), .int (3 : Int32)]) (rest := [.long r27]) (T := TX8) C (c_Te_told hi h29) (by decide) (ce_0 _ _ _) (ci := 6) rfl tw_797 tw_710 tw_711 tw_2 tw_712 (by decide +kernel) (by decide) (by decide) rfl dX8_digest_62 ?_
  obtain ⟨r29, h30, hm⟩ := o1_some hm
  refine q_callS (pc := 65) (As := [.long r27, .int r28]) (rest := []) C (c_Te_mixed hi h30) tw_787 tw_788 tw_2 tw_789 (by decide +kernel) (by decide) (by decide) rfl dX8_digest_65 ?_
  refine q_lstore_n (pc := 68) (lv' := [(1, .long r29), (4, .int (3 : Int32)), (3, .int (1 : Int32)), (0, .ref (gad G 0))]) C dX8_digest_68 rfl (by decide) rfl ?_
  refine q_iinc (pc := 69) (k := 1) (v := (4 : Int32)) (lv' := [(4, .int (4 : Int32)), (1, .long r29), (3, .int (1 : Int32)), (0, .ref (gad G 0))]) C dX8_digest_69 rfl (by decide) (by decide) rfl ?_
  refine q_goto (pc := 72) (tgt := 50) C dX8_digest_72 (by decide) ?_
  refine q_iload (pc := 50) C dX8_digest_50 0 rfl ?_
  refine q_bipush (pc := 52) (v := (7 : Int32)) C dX8_digest_52 (by decide) ?_
  refine q_icmp_gt (pc := 54) (tgt := 75) C dX8_digest_54 (by decide) (fun c => absurd c (by decide)) (fun _ => ?_)
  refine q_lload_n (pc := 57) C dX8_digest_57 rfl 1 rfl ?_
  refine q_aload_n (pc := 58) C dX8_digest_58 rfl 3 rfl ?_
  refine q_iload_n (pc := 59) C dX8_digest_59 rfl 2 rfl ?_
  refine q_iload (pc := 60) C dX8_digest_60 0 rfl ?_
  obtain ⟨r30, S15, h31, hm⟩ := ob_some hm
  refine q_callV (pc := 62) (k := 0) (As := [.int (1 : Int32), .int (4 : Int32)]) (rest := [.long r29]) (T := TX8) C (c_Te_told hi h31) (by decide) (ce_0 _ _ _) (ci := 6) rfl tw_797 tw_710 tw_711 tw_2 tw_712 (by decide +kernel) (by decide) (by decide) rfl dX8_digest_62 ?_
  obtain ⟨r31, h32, hm⟩ := o1_some hm
  refine q_callS (pc := 65) (As := [.long r29, .int r30]) (rest := []) C (c_Te_mixed hi h32) tw_787 tw_788 tw_2 tw_789 (by decide +kernel) (by decide) (by decide) rfl dX8_digest_65 ?_
  refine q_lstore_n (pc := 68) (lv' := [(1, .long r31), (4, .int (4 : Int32)), (3, .int (1 : Int32)), (0, .ref (gad G 0))]) C dX8_digest_68 rfl (by decide) rfl ?_
  refine q_iinc (pc := 69) (k := 1) (v := (5 : Int32)) (lv' := [(4, .int (5 : Int32)), (1, .long r31), (3, .int (1 : Int32)), (0, .ref (gad G 0))]) C dX8_digest_69 rfl (by decide) (by decide) rfl ?_
  refine q_goto (pc := 72) (tgt := 50) C dX8_digest_72 (by decide) ?_
  refine q_iload (pc := 50) C dX8_digest_50 0 rfl ?_
  refine q_bipush (pc := 52) (v := (7 : Int32)) C dX8_digest_52 (by decide) ?_
  refine q_icmp_gt (pc := 54) (tgt := 75) C dX8_digest_54 (by decide) (fun c => absurd c (by decide)) (fun _ => ?_)
  refine q_lload_n (pc := 57) C dX8_digest_57 rfl 1 rfl ?_
  refine q_aload_n (pc := 58) C dX8_digest_58 rfl 3 rfl ?_
  refine q_iload_n (pc := 59) C dX8_digest_59 rfl 2 rfl ?_
  refine q_iload (pc := 60) C dX8_digest_60 0 rfl ?_
  obtain ⟨r32, S16, h33, hm⟩ := ob_some hm
  refine q_callV (pc := 62) (k := 0) (As := [.int (1 : Int32), .int (5 : Int32)]) (rest := [.long r31]) (T := TX8) C (c_Te_told hi h33) (by decide) (ce_0 _ _ _) (ci := 6) rfl tw_797 tw_710 tw_711 tw_2 tw_712 (by decide +kernel) (by decide) (by decide) rfl dX8_digest_62 ?_
  obtain ⟨r33, h34, hm⟩ := o1_some hm
  refine q_callS (pc := 65) (As := [.long r31, .int r32]) (rest := []) C (c_Te_mixed hi h34) tw_787 tw_788 tw_2 tw_789 (by decide +kernel) (by decide) (by decide) rfl dX8_digest_65 ?_
  refine q_lstore_n (pc := 68) (lv' := [(1, .long r33), (4, .int (5 : Int32)), (3, .int (1 : Int32)), (0, .ref (gad G 0))]) C dX8_digest_68 rfl (by decide) rfl ?_
  refine q_iinc (pc := 69) (k := 1) (v := (6 : Int32)) (lv' := [(4, .int (6 : Int32)), (1, .long r33), (3, .int (1 : Int32)), (0, .ref (gad G 0))]) C dX8_digest_69 rfl (by decide) (by decide) rfl ?_
  refine q_goto (pc := 72) (tgt := 50) C dX8_digest_72 (by decide) ?_
  refine q_iload (pc := 50) C dX8_digest_50 0 rfl ?_
  refine q_bipush (pc := 52) (v := (7 : Int32)) C dX8_digest_52 (by decide) ?_
  refine q_icmp_gt (pc := 54) (tgt := 75) C dX8_digest_54 (by decide) (fun c => absurd c (by decide)) (fun _ => ?_)
  refine q_lload_n (pc := 57) C dX8_digest_57 rfl 1 rfl ?_
  refine q_aload_n (pc := 58) C dX8_digest_58 rfl 3 rfl ?_
  refine q_iload_n (pc := 59) C dX8_digest_59 rfl 2 rfl ?_
  refine q_iload (pc := 60) C dX8_digest_60 0 rfl ?_
  obtain ⟨r34, S17, h35, hm⟩ := ob_some hm
  refine q_callV (pc := 62) (k := 0) (As := [.int (1 : Int32), .int (6 : Int32)]) (rest := [.long r33]) (T := TX8) C (c_Te_told hi h35) (by decide) (ce_0 _ _ _) (ci := 6) rfl tw_797 tw_710 tw_711 tw_2 tw_712 (by decide +kernel) (by decide) (by decide) rfl dX8_digest_62 ?_
  obtain ⟨r35, h36, hm⟩ := o1_some hm
  refine q_callS (pc := 65) (As := [.long r33, .int r34]) (rest := []) C (c_Te_mixed hi h36) tw_787 tw_788 tw_2 tw_789 (by decide +kernel) (by decide) (by decide) rfl dX8_digest_65 ?_
  refine q_lstore_n (pc := 68) (lv' := [(1, .long r35), (4, .int (6 : Int32)), (3, .int (1 : Int32)), (0, .ref (gad G 0))]) C dX8_digest_68 rfl (by decide) rfl ?_
  refine q_iinc (pc := 69) (k := 1) (v := (7 : Int32)) (lv' := [(4, .int (7 : Int32)), (1, .long r35), (3, .int (1 : Int32)), (0, .ref (gad G 0))]) C dX8_digest_69 rfl (by decide) (by decide) rfl ?_
  refine q_goto (pc := 72) (tgt := 50) C dX8_digest_72 (by decide) ?_
  refine q_iload (pc := 50) C dX8_digest_50 0 rfl ?_
  refine q_bipush (pc := 52) (v := (7 : Int32)) C dX8_digest_52 (by decide) ?_
  refine q_icmp_gt (pc := 54) (tgt := 75) C dX8_digest_54 (by decide) (fun c => absurd c (by decide)) (fun _ => ?_)
  refine q_lload_n (pc := 57) C dX8_digest_57 rfl 1 rfl ?_
  refine q_aload_n (pc := 58) C dX8_digest_58 rfl 3 rfl ?_
  refine q_iload_n (pc := 59) C dX8_digest_59 rfl 2 rfl ?_
  refine q_iload (pc := 60) C dX8_digest_60 0 rfl ?_
  obtain ⟨r36, S18, h37, hm⟩ := ob_some hm
  refine q_callV (pc := 62) (k := 0) (As := [.int (1 : Int32), .int (7 : Int32)]) (rest := [.long r35]) (T := TX8) C (c_Te_told hi h37) (by decide) (ce_0 _ _ _) (ci := 6) rfl tw_797 tw_710 tw_711 tw_2 tw_712 (by decide +kernel) (by decide) (by decide) rfl dX8_digest_62 ?_
  obtain ⟨r37, h38, hm⟩ := o1_some hm
  refine q_callS (pc := 65) (As := [.long r35, .int r36]) (rest := []) C (c_Te_mixed hi h38) tw_787 tw_788 tw_2 tw_789 (by decide +kernel) (by decide) (by decide) rfl dX8_digest_65 ?_
  refine q_lstore_n (pc := 68) (lv' := [(1, .long r37), (4, .int (7 : Int32)), (3, .int (1 : Int32)), (0, .ref (gad G 0))]) C dX8_digest_68 rfl (by decide) rfl ?_
  refine q_iinc (pc := 69) (k := 1) (v := (8 : Int32)) (lv' := [(4, .int (8 : Int32)), (1, .long r37), (3, .int (1 : Int32)), (0, .ref (gad G 0))]) C dX8_digest_69 rfl (by decide) (by decide) rfl ?_
  refine q_goto (pc := 72) (tgt := 50) C dX8_digest_72 (by decide) ?_
  refine q_iload (pc := 50) C dX8_digest_50 0 rfl ?_
  refine q_bipush (pc := 52) (v := (7 : Int32)) C dX8_digest_52 (by decide) ?_
  refine q_icmp_gt (pc := 54) (tgt := 75) C dX8_digest_54 (by decide) (fun _ => ?_) (fun c => absurd c (by decide))
  refine q_lload_n (pc := 75) C dX8_digest_75 rfl 1 rfl ?_
  refine q_aload_n (pc := 76) C dX8_digest_76 rfl 3 rfl ?_
  refine q_iload_n (pc := 77) C dX8_digest_77 rfl 2 rfl ?_
  obtain ⟨r38, S19, h39, hm⟩ := ob_some hm
  refine q_callV (pc := 78) (k := 0) (As := [.int (1 : Int32)]) (rest := [.long r37]) (T := TX8) C (c_Te_wouldGo hi h39) (by decide) (ce_0 _ _ _) (ci := 6) rfl tw_798 tw_799 tw_800 tw_2 tw_801 (by decide +kernel) (by decide) (by decide) rfl dX8_digest_78 ?_
  obtain ⟨r39, h40, hm⟩ := o1_some hm
  refine q_callS (pc := 81) (As := [.long r37, .int r38]) (rest := []) C (c_Te_mixed hi h40) tw_787 tw_788 tw_2 tw_789 (by decide +kernel) (by decide) (by decide) rfl dX8_digest_81 ?_
  refine q_lstore_n (pc := 84) (lv' := [(1, .long r39), (4, .int (8 : Int32)), (3, .int (1 : Int32)), (0, .ref (gad G 0))]) C dX8_digest_84 rfl (by decide) rfl ?_
  refine q_lload_n (pc := 85) C dX8_digest_85 rfl 0 rfl ?_
  refine q_aload_n (pc := 86) C dX8_digest_86 rfl 3 rfl ?_
  refine q_iload_n (pc := 87) C dX8_digest_87 rfl 2 rfl ?_
  obtain ⟨r40, S20, h41, hm⟩ := ob_some hm
  refine q_callV (pc := 88) (k := 0) (As := [.int (1 : Int32)]) (rest := [.long r39]) (T := TX8) C (c_Te_wouldWork hi h41) (by decide) (ce_0 _ _ _) (ci := 6) rfl tw_831 tw_832 tw_833 tw_2 tw_834 (by decide +kernel) (by decide) (by decide) rfl dX8_digest_88 ?_
  obtain ⟨r41, h42, hm⟩ := o1_some hm
  refine q_callS (pc := 91) (As := [.long r39, .int r40]) (rest := []) C (c_Te_mixed hi h42) tw_787 tw_788 tw_2 tw_789 (by decide +kernel) (by decide) (by decide) rfl dX8_digest_91 ?_
  refine q_lstore_n (pc := 94) (lv' := [(1, .long r41), (4, .int (8 : Int32)), (3, .int (1 : Int32)), (0, .ref (gad G 0))]) C dX8_digest_94 rfl (by decide) rfl ?_
  refine q_iinc (pc := 95) (k := 2) (v := (2 : Int32)) (lv' := [(3, .int (2 : Int32)), (1, .long r41), (4, .int (8 : Int32)), (0, .ref (gad G 0))]) C dX8_digest_95 rfl (by decide) (by decide) rfl ?_
  refine q_goto (pc := 98) (tgt := 42) C dX8_digest_98 (by decide) ?_
  refine q_iload_n (pc := 42) C dX8_digest_42 rfl 0 rfl ?_
  refine q_iconst (pc := 43) (v := (4 : Int32)) C dX8_digest_43 (by decide) ?_
  refine q_icmp_ge (pc := 44) (tgt := 101) C dX8_digest_44 (by decide) (fun c => absurd c (by decide)) (fun _ => ?_)
  refine q_iconst (pc := 47) (v := (0 : Int32)) C dX8_digest_47 (by decide) ?_
  refine q_istore (pc := 48) (lv' := [(4, .int (0 : Int32)), (3, .int (2 : Int32)), (1, .long r41), (0, .ref (gad G 0))]) C dX8_digest_48 (by decide) rfl ?_
  refine q_iload (pc := 50) C dX8_digest_50 0 rfl ?_
  refine q_bipush (pc := 52) (v := (7 : Int32)) C dX8_digest_52 (by decide) ?_
  refine q_icmp_gt (pc := 54) (tgt := 75) C dX8_digest_54 (by decide) (fun c => absurd c (by decide)) (fun _ => ?_)
  refine q_lload_n (pc := 57) C dX8_digest_57 rfl 2 rfl ?_
  refine q_aload_n (pc := 58) C dX8_digest_58 rfl 3 rfl ?_
  refine q_iload_n (pc := 59) C dX8_digest_59 rfl 1 rfl ?_
  refine q_iload (pc := 60) C dX8_digest_60 0 rfl ?_
  obtain ⟨r42, S21, h43, hm⟩ := ob_some hm
  refine q_callV (pc := 62) (k := 0) (As := [.int (2 : Int32), .int (0 : Int32)]) (rest := [.long r41]) (T := TX8) C (c_Te_told hi h43) (by decide) (ce_0 _ _ _) (ci := 6) rfl tw_797 tw_710 tw_711 tw_2 tw_712 (by decide +kernel) (by decide) (by decide) rfl dX8_digest_62 ?_
  obtain ⟨r43, h44, hm⟩ := o1_some hm
  refine q_callS (pc := 65) (As := [.long r41, .int r42]) (rest := []) C (c_Te_mixed hi h44) tw_787 tw_788 tw_2 tw_789 (by decide +kernel) (by decide) (by decide) rfl dX8_digest_65 ?_
  refine q_lstore_n (pc := 68) (lv' := [(1, .long r43), (4, .int (0 : Int32)), (3, .int (2 : Int32)), (0, .ref (gad G 0))]) C dX8_digest_68 rfl (by decide) rfl ?_
  refine q_iinc (pc := 69) (k := 1) (v := (1 : Int32)) (lv' := [(4, .int (1 : Int32)), (1, .long r43), (3, .int (2 : Int32)), (0, .ref (gad G 0))]) C dX8_digest_69 rfl (by decide) (by decide) rfl ?_
  refine q_goto (pc := 72) (tgt := 50) C dX8_digest_72 (by decide) ?_
  refine q_iload (pc := 50) C dX8_digest_50 0 rfl ?_
  refine q_bipush (pc := 52) (v := (7 : Int32)) C dX8_digest_52 (by decide) ?_
  refine q_icmp_gt (pc := 54) (tgt := 75) C dX8_digest_54 (by decide) (fun c => absurd c (by decide)) (fun _ => ?_)
  refine q_lload_n (pc := 57) C dX8_digest_57 rfl 1 rfl ?_
  refine q_aload_n (pc := 58) C dX8_digest_58 rfl 3 rfl ?_
  refine q_iload_n (pc := 59) C dX8_digest_59 rfl 2 rfl ?_
  refine q_iload (pc := 60) C dX8_digest_60 0 rfl ?_
  obtain ⟨r44, S22, h45, hm⟩ := ob_some hm
  refine q_callV (pc := 62) (k := 0) (As := [.int (2 : Int32), .int (1 : Int32)]) (rest := [.long r43]) (T := TX8) C (c_Te_told hi h45) (by decide) (ce_0 _ _ _) (ci := 6) rfl tw_797 tw_710 tw_711 tw_2 tw_712 (by decide +kernel) (by decide) (by decide) rfl dX8_digest_62 ?_
  obtain ⟨r45, h46, hm⟩ := o1_some hm
  refine q_callS (pc := 65) (As := [.long r43, .int r44]) (rest := []) C (c_Te_mixed hi h46) tw_787 tw_788 tw_2 tw_789 (by decide +kernel) (by decide) (by decide) rfl dX8_digest_65 ?_
  refine q_lstore_n (pc := 68) (lv' := [(1, .long r45), (4, .int (1 : Int32)), (3, .int (2 : Int32)), (0, .ref (gad G 0))]) C dX8_digest_68 rfl (by decide) rfl ?_
  refine q_iinc (pc := 69) (k := 1) (v := (2 : Int32)) (lv' := [(4, .int (2 : Int32)), (1, .long r45), (3, .int (2 : Int32)), (0, .ref (gad G 0))]) C dX8_digest_69 rfl (by decide) (by decide) rfl ?_
  refine q_goto (pc := 72) (tgt := 50) C dX8_digest_72 (by decide) ?_
  refine q_iload (pc := 50) C dX8_digest_50 0 rfl ?_
  refine q_bipush (pc := 52) (v := (7 : Int32)) C dX8_digest_52 (by decide) ?_
  refine q_icmp_gt (pc := 54) (tgt := 75) C dX8_digest_54 (by decide) (fun c => absurd c (by decide)) (fun _ => ?_)
  refine q_lload_n (pc := 57) C dX8_digest_57 rfl 1 rfl ?_
  refine q_aload_n (pc := 58) C dX8_digest_58 rfl 3 rfl ?_
  refine q_iload_n (pc := 59) C dX8_digest_59 rfl 2 rfl ?_
  refine q_iload (pc := 60) C dX8_digest_60 0 rfl ?_
  obtain ⟨r46, S23, h47, hm⟩ := ob_some hm
  refine q_callV (pc := 62) (k := 0) (As := [.int (2 : Int32), .int (2 : Int32)]) (rest := [.long r45]) (T := TX8) C (c_Te_told hi h47) (by decide) (ce_0 _ _ _) (ci := 6) rfl tw_797 tw_710 tw_711 tw_2 tw_712 (by decide +kernel) (by decide) (by decide) rfl dX8_digest_62 ?_
  obtain ⟨r47, h48, hm⟩ := o1_some hm
  refine q_callS (pc := 65) (As := [.long r45, .int r46]) (rest := []) C (c_Te_mixed hi h48) tw_787 tw_788 tw_2 tw_789 (by decide +kernel) (by decide) (by decide) rfl dX8_digest_65 ?_
  refine q_lstore_n (pc := 68) (lv' := [(1, .long r47), (4, .int (2 : Int32)), (3, .int (2 : Int32)), (0, .ref (gad G 0))]) C dX8_digest_68 rfl (by decide) rfl ?_
  refine q_iinc (pc := 69) (k := 1) (v := (3 : Int32)) (lv' := [(4, .int (3 : Int32)), (1, .long r47), (3, .int (2 : Int32)), (0, .ref (gad G 0))]) C dX8_digest_69 rfl (by decide) (by decide) rfl ?_
  refine q_goto (pc := 72) (tgt := 50) C dX8_digest_72 (by decide) ?_
  refine q_iload (pc := 50) C dX8_digest_50 0 rfl ?_
  refine q_bipush (pc := 52) (v := (7 : Int32)) C dX8_digest_52 (by decide) ?_
  refine q_icmp_gt (pc := 54) (tgt := 75) C dX8_digest_54 (by decide) (fun c => absurd c (by decide)) (fun _ => ?_)
  refine q_lload_n (pc := 57) C dX8_digest_57 rfl 1 rfl ?_
  refine q_aload_n (pc := 58) C dX8_digest_58 rfl 3 rfl ?_
  refine q_iload_n (pc := 59) C dX8_digest_59 rfl 2 rfl ?_
  refine q_iload (pc := 60) C dX8_digest_60 0 rfl ?_
  obtain ⟨r48, S24, h49, hm⟩ := ob_some hm
  refine q_callV (pc := 62) (k := 0) (As := [.int (2 : Int32), .int (3 : Int32)]) (rest := [.long r47]) (T := TX8) C (c_Te_told hi h49) (by decide) (ce_0 _ _ _) (ci := 6) rfl tw_797 tw_710 tw_711 tw_2 tw_712 (by decide +kernel) (by decide) (by decide) rfl dX8_digest_62 ?_
  obtain ⟨r49, h50, hm⟩ := o1_some hm
  refine q_callS (pc := 65) (As := [.long r47, .int r48]) (rest := []) C (c_Te_mixed hi h50) tw_787 tw_788 tw_2 tw_789 (by decide +kernel) (by decide) (by decide) rfl dX8_digest_65 ?_
  refine q_lstore_n (pc := 68) (lv' := [(1, .long r49), (4, .int (3 : Int32)), (3, .int (2 : Int32)), (0, .ref (gad G 0))]) C dX8_digest_68 rfl (by decide) rfl ?_
  refine q_iinc (pc := 69) (k := 1) (v := (4 : Int32)) (lv' := [(4, .int (4 : Int32)), (1, .long r49), (3, .int (2 : Int32)), (0, .ref (gad G 0))]) C dX8_digest_69 rfl (by decide) (by decide) rfl ?_
  refine q_goto (pc := 72) (tgt := 50) C dX8_digest_72 (by decide) ?_
  refine q_iload (pc := 50) C dX8_digest_50 0 rfl ?_
  refine q_bipush (pc := 52) (v := (7 : Int32)) C dX8_digest_52 (by decide) ?_
  refine q_icmp_gt (pc := 54) (tgt := 75) C dX8_digest_54 (by decide) (fun c => absurd c (by decide)) (fun _ => ?_)
  refine q_lload_n (pc := 57) C dX8_digest_57 rfl 1 rfl ?_
  refine q_aload_n (pc := 58) C dX8_digest_58 rfl 3 rfl ?_
  refine q_iload_n (pc := 59) C dX8_digest_59 rfl 2 rfl ?_
  refine q_iload (pc := 60) C dX8_digest_60 0 rfl ?_
  obtain ⟨r50, S25, h51, hm⟩ := ob_some hm
  refine q_callV (pc := 62) (k := 0) (As := [.int (2 : Int32), .int (4 : Int32)]) (rest := [.long r49]) (T := TX8) C (c_Te_told hi h51) (by decide) (ce_0 _ _ _) (ci := 6) rfl tw_797 tw_710 tw_711 tw_2 tw_712 (by decide +kernel) (by decide) (by decide) rfl dX8_digest_62 ?_
  obtain ⟨r51, h52, hm⟩ := o1_some hm
  refine q_callS (pc := 65) (As := [.long r49, .int r50]) (rest := []) C (c_Te_mixed hi h52) tw_787 tw_788 tw_2 tw_789 (by decide +kernel) (by decide) (by decide) rfl dX8_digest_65 ?_
  refine q_lstore_n (pc := 68) (lv' := [(1, .long r51), (4, .int (4 : Int32)), (3, .int (2 : Int32)), (0, .ref (gad G 0))]) C dX8_digest_68 rfl (by decide) rfl ?_
  refine q_iinc (pc := 69) (k := 1) (v := (5 : Int32)) (lv' := [(4, .int (5 : Int32)), (1, .long r51), (3, .int (2 : Int32)), (0, .ref (gad G 0))]) C dX8_digest_69 rfl (by decide) (by decide) rfl ?_
  refine q_goto (pc := 72) (tgt := 50) C dX8_digest_72 (by decide) ?_
  refine q_iload (pc := 50) C dX8_digest_50 0 rfl ?_
  refine q_bipush (pc := 52) (v := (7 : Int32)) C dX8_digest_52 (by decide) ?_
  refine q_icmp_gt (pc := 54) (tgt := 75) C dX8_digest_54 (by decide) (fun c => absurd c (by decide)) (fun _ => ?_)
  refine q_lload_n (pc := 57) C dX8_digest_57 rfl 1 rfl ?_
  refine q_aload_n (pc := 58) C dX8_digest_58 rfl 3 rfl ?_
  refine q_iload_n (pc := 59) C dX8_digest_59 rfl 2 rfl ?_
  refine q_iload (pc := 60) C dX8_digest_60 0 rfl ?_
  obtain ⟨r52, S26, h53, hm⟩ := ob_some hm
  refine q_callV (pc := 62) (k := 0) (As := [.int (2 : Int32), .int (5 : Int32)]) (rest := [.long r51]) (T := TX8) C (c_Te_told hi h53) (by decide) (ce_0 _ _ _) (ci := 6) rfl tw_797 tw_710 tw_711 tw_2 tw_712 (by decide +kernel) (by decide) (by decide) rfl dX8_digest_62 ?_
  obtain ⟨r53, h54, hm⟩ := o1_some hm
  refine q_callS (pc := 65) (As := [.long r51, .int r52]) (rest := []) C (c_Te_mixed hi h54) tw_787 tw_788 tw_2 tw_789 (by decide +kernel) (by decide) (by decide) rfl dX8_digest_65 ?_
  refine q_lstore_n (pc := 68) (lv' := [(1, .long r53), (4, .int (5 : Int32)), (3, .int (2 : Int32)), (0, .ref (gad G 0))]) C dX8_digest_68 rfl (by decide) rfl ?_
  refine q_iinc (pc := 69) (k := 1) (v := (6 : Int32)) (lv' := [(4, .int (6 : Int32)), (1, .long r53), (3, .int (2 : Int32)), (0, .ref (gad G 0))]) C dX8_digest_69 rfl (by decide) (by decide) rfl ?_
  refine q_goto (pc := 72) (tgt := 50) C dX8_digest_72 (by decide) ?_
  refine q_iload (pc := 50) C dX8_digest_50 0 rfl ?_
  refine q_bipush (pc := 52) (v := (7 : Int32)) C dX8_digest_52 (by decide) ?_
  refine q_icmp_gt (pc := 54) (tgt := 75) C dX8_digest_54 (by decide) (fun c => absurd c (by decide)) (fun _ => ?_)
  refine q_lload_n (pc := 57) C dX8_digest_57 rfl 1 rfl ?_
  refine q_aload_n (pc := 58) C dX8_digest_58 rfl 3 rfl ?_
  refine q_iload_n (pc := 59) C dX8_digest_59 rfl 2 rfl ?_
  refine q_iload (pc := 60) C dX8_digest_60 0 rfl ?_
  obtain ⟨r54, S27, h55, hm⟩ := ob_some hm
  refine q_callV (pc := 62) (k := 0) (As := [.int (2 : Int32), .int (6 : Int32)]) (rest := [.long r53]) (T := TX8) C (c_Te_told hi h55) (by decide) (ce_0 _ _ _) (ci := 6) rfl tw_797 tw_710 tw_711 tw_2 tw_712 (by decide +kernel) (by decide) (by decide) rfl dX8_digest_62 ?_
  obtain ⟨r55, h56, hm⟩ := o1_some hm
  refine q_callS (pc := 65) (As := [.long r53, .int r54]) (rest := []) C (c_Te_mixed hi h56) tw_787 tw_788 tw_2 tw_789 (by decide +kernel) (by decide) (by decide) rfl dX8_digest_65 ?_
  refine q_lstore_n (pc := 68) (lv' := [(1, .long r55), (4, .int (6 : Int32)), (3, .int (2 : Int32)), (0, .ref (gad G 0))]) C dX8_digest_68 rfl (by decide) rfl ?_
  refine q_iinc (pc := 69) (k := 1) (v := (7 : Int32)) (lv' := [(4, .int (7 : Int32)), (1, .long r55), (3, .int (2 : Int32)), (0, .ref (gad G 0))]) C dX8_digest_69 rfl (by decide) (by decide) rfl ?_
  refine q_goto (pc := 72) (tgt := 50) C dX8_digest_72 (by decide) ?_
  refine q_iload (pc := 50) C dX8_digest_50 0 rfl ?_
  refine q_bipush (pc := 52) (v := (7 : Int32)) C dX8_digest_52 (by decide) ?_
  refine q_icmp_gt (pc := 54) (tgt := 75) C dX8_digest_54 (by decide) (fun c => absurd c (by decide)) (fun _ => ?_)
  refine q_lload_n (pc := 57) C dX8_digest_57 rfl 1 rfl ?_
  refine q_aload_n (pc := 58) C dX8_digest_58 rfl 3 rfl ?_
  refine q_iload_n (pc := 59) C dX8_digest_59 rfl 2 rfl ?_
  refine q_iload (pc := 60) C dX8_digest_60 0 rfl ?_
  obtain ⟨r56, S28, h57, hm⟩ := ob_some hm
  refine q_callV (pc := 62) (k := 0) (As := [.int (2 : Int32), .int (7 : Int32)]) (rest := [.long r55]) (T := TX8) C (c_Te_told hi h57) (by decide) (ce_0 _ _ _) (ci := 6) rfl tw_797 tw_710 tw_711 tw_2 tw_712 (by decide +kernel) (by decide) (by decide) rfl dX8_digest_62 ?_
  obtain ⟨r57, h58, hm⟩ := o1_some hm
  refine q_callS (pc := 65) (As := [.long r55, .int r56]) (rest := []) C (c_Te_mixed hi h58) tw_787 tw_788 tw_2 tw_789 (by decide +kernel) (by decide) (by decide) rfl dX8_digest_65 ?_
  refine q_lstore_n (pc := 68) (lv' := [(1, .long r57), (4, .int (7 : Int32)), (3, .int (2 : Int32)), (0, .ref (gad G 0))]) C dX8_digest_68 rfl (by decide) rfl ?_
  refine q_iinc (pc := 69) (k := 1) (v := (8 : Int32)) (lv' := [(4, .int (8 : Int32)), (1, .long r57), (3, .int (2 : Int32)), (0, .ref (gad G 0))]) C dX8_digest_69 rfl (by decide) (by decide) rfl ?_
  refine q_goto (pc := 72) (tgt := 50) C dX8_digest_72 (by decide) ?_
  refine q_iload (pc := 50) C dX8_digest_50 0 rfl ?_
  refine q_bipush (pc := 52) (v := (7 : Int32)) C dX8_digest_52 (by decide) ?_
  refine q_icmp_gt (pc := 54) (tgt := 75) C dX8_digest_54 (by decide) (fun _ => ?_) (fun c => absurd c (by decide))
  refine q_lload_n (pc := 75) C dX8_digest_75 rfl 1 rfl ?_
  refine q_aload_n (pc := 76) C dX8_digest_76 rfl 3 rfl ?_
  refine q_iload_n (pc := 77) C dX8_digest_77 rfl 2 rfl ?_
  obtain ⟨r58, S29, h59, hm⟩ := ob_some hm
  refine q_callV (pc := 78) (k := 0) (As := [.int (2 : Int32)]) (rest := [.long r57]) (T := TX8) C (c_Te_wouldGo hi h59) (by decide) (ce_0 _ _ _) (ci := 6) rfl tw_798 tw_799 tw_800 tw_2 tw_801 (by decide +kernel) (by decide) (by decide) rfl dX8_digest_78 ?_
  obtain ⟨r59, h60, hm⟩ := o1_some hm
  refine q_callS (pc := 81) (As := [.long r57, .int r58]) (rest := []) C (c_Te_mixed hi h60) tw_787 tw_788 tw_2 tw_789 (by decide +kernel) (by decide) (by decide) rfl dX8_digest_81 ?_
  refine q_lstore_n (pc := 84) (lv' := [(1, .long r59), (4, .int (8 : Int32)), (3, .int (2 : Int32)), (0, .ref (gad G 0))]) C dX8_digest_84 rfl (by decide) rfl ?_
  refine q_lload_n (pc := 85) C dX8_digest_85 rfl 0 rfl ?_
  refine q_aload_n (pc := 86) C dX8_digest_86 rfl 3 rfl ?_
  refine q_iload_n (pc := 87) C dX8_digest_87 rfl 2 rfl ?_
  obtain ⟨r60, S30, h61, hm⟩ := ob_some hm
  refine q_callV (pc := 88) (k := 0) (As := [.int (2 : Int32)]) (rest := [.long r59]) (T := TX8) C (c_Te_wouldWork hi h61) (by decide) (ce_0 _ _ _) (ci := 6) rfl tw_831 tw_832 tw_833 tw_2 tw_834 (by decide +kernel) (by decide) (by decide) rfl dX8_digest_88 ?_
  obtain ⟨r61, h62, hm⟩ := o1_some hm
  refine q_callS (pc := 91) (As := [.long r59, .int r60]) (rest := []) C (c_Te_mixed hi h62) tw_787 tw_788 tw_2 tw_789 (by decide +kernel) (by decide) (by decide) rfl dX8_digest_91 ?_
  refine q_lstore_n (pc := 94) (lv' := [(1, .long r61), (4, .int (8 : Int32)), (3, .int (2 : Int32)), (0, .ref (gad G 0))]) C dX8_digest_94 rfl (by decide) rfl ?_
  refine q_iinc (pc := 95) (k := 2) (v := (3 : Int32)) (lv' := [(3, .int (3 : Int32)), (1, .long r61), (4, .int (8 : Int32)), (0, .ref (gad G 0))]) C dX8_digest_95 rfl (by decide) (by decide) rfl ?_
  refine q_goto (pc := 98) (tgt := 42) C dX8_digest_98 (by decide) ?_
  refine q_iload_n (pc := 42) C dX8_digest_42 rfl 0 rfl ?_
  refine q_iconst (pc := 43) (v := (4 : Int32)) C dX8_digest_43 (by decide) ?_
  refine q_icmp_ge (pc := 44) (tgt := 101) C dX8_digest_44 (by decide) (fun c => absurd c (by decide)) (fun _ => ?_)
  refine q_iconst (pc := 47) (v := (0 : Int32)) C dX8_digest_47 (by decide) ?_
  refine q_istore (pc := 48) (lv' := [(4, .int (0 : Int32)), (3, .int (3 : Int32)), (1, .long r61), (0, .ref (gad G 0))]) C dX8_digest_48 (by decide) rfl ?_
  refine q_iload (pc := 50) C dX8_digest_50 0 rfl ?_
  refine q_bipush (pc := 52) (v := (7 : Int32)) C dX8_digest_52 (by decide) ?_
  refine q_icmp_gt (pc := 54) (tgt := 75) C dX8_digest_54 (by decide) (fun c => absurd c (by decide)) (fun _ => ?_)
  refine q_lload_n (pc := 57) C dX8_digest_57 rfl 2 rfl ?_
  refine q_aload_n (pc := 58) C dX8_digest_58 rfl 3 rfl ?_
  refine q_iload_n (pc := 59) C dX8_digest_59 rfl 1 rfl ?_
  refine q_iload (pc := 60) C dX8_digest_60 0 rfl ?_
  obtain ⟨r62, S31, h63, hm⟩ := ob_some hm
  refine q_callV (pc := 62) (k := 0) (As := [.int (3 : Int32), .int (0 : Int32)]) (rest := [.long r61]) (T := TX8) C (c_Te_told hi h63) (by decide) (ce_0 _ _ _) (ci := 6) rfl tw_797 tw_710 tw_711 tw_2 tw_712 (by decide +kernel) (by decide) (by decide) rfl dX8_digest_62 ?_
  obtain ⟨r63, h64, hm⟩ := o1_some hm
  refine q_callS (pc := 65) (As := [.long r61, .int r62]) (rest := []) C (c_Te_mixed hi h64) tw_787 tw_788 tw_2 tw_789 (by decide +kernel) (by decide) (by decide) rfl dX8_digest_65 ?_
  refine q_lstore_n (pc := 68) (lv' := [(1, .long r63), (4, .int (0 : Int32)), (3, .int (3 : Int32)), (0, .ref (gad G 0))]) C dX8_digest_68 rfl (by decide) rfl ?_
  refine q_iinc (pc := 69) (k := 1) (v := (1 : Int32)) (lv' := [(4, .int (1 : Int32)), (1, .long r63), (3, .int (3 : Int32)), (0, .ref (gad G 0))]) C dX8_digest_69 rfl (by decide) (by decide) rfl ?_
  refine q_goto (pc := 72) (tgt := 50) C dX8_digest_72 (by decide) ?_
  refine q_iload (pc := 50) C dX8_digest_50 0 rfl ?_
  refine q_bipush (pc := 52) (v := (7 : Int32)) C dX8_digest_52 (by decide) ?_
  refine q_icmp_gt (pc := 54) (tgt := 75) C dX8_digest_54 (by decide) (fun c => absurd c (by decide)) (fun _ => ?_)
  refine q_lload_n (pc := 57) C dX8_digest_57 rfl 1 rfl ?_
  refine q_aload_n (pc := 58) C dX8_digest_58 rfl 3 rfl ?_
  refine q_iload_n (pc := 59) C dX8_digest_59 rfl 2 rfl ?_
  refine q_iload (pc := 60) C dX8_digest_60 0 rfl ?_
  obtain ⟨r64, S32, h65, hm⟩ := ob_some hm
  refine q_callV (pc := 62) (k := 0) (As := [.int (3 : Int32), .int (1 : Int32)]) (rest := [.long r63]) (T := TX8) C (c_Te_told hi h65) (by decide) (ce_0 _ _ _) (ci := 6) rfl tw_797 tw_710 tw_711 tw_2 tw_712 (by decide +kernel) (by decide) (by decide) rfl dX8_digest_62 ?_
  obtain ⟨r65, h66, hm⟩ := o1_some hm
  refine q_callS (pc := 65) (As := [.long r63, .int r64]) (rest := []) C (c_Te_mixed hi h66) tw_787 tw_788 tw_2 tw_789 (by decide +kernel) (by decide) (by decide) rfl dX8_digest_65 ?_
  refine q_lstore_n (pc := 68) (lv' := [(1, .long r65), (4, .int (1 : Int32)), (3, .int (3 : Int32)), (0, .ref (gad G 0))]) C dX8_digest_68 rfl (by decide) rfl ?_
  refine q_iinc (pc := 69) (k := 1) (v := (2 : Int32)) (lv' := [(4, .int (2 : Int32)), (1, .long r65), (3, .int (3 : Int32)), (0, .ref (gad G 0))]) C dX8_digest_69 rfl (by decide) (by decide) rfl ?_
  refine q_goto (pc := 72) (tgt := 50) C dX8_digest_72 (by decide) ?_
  refine q_iload (pc := 50) C dX8_digest_50 0 rfl ?_
  refine q_bipush (pc := 52) (v := (7 : Int32)) C dX8_digest_52 (by decide) ?_
  refine q_icmp_gt (pc := 54) (tgt := 75) C dX8_digest_54 (by decide) (fun c => absurd c (by decide)) (fun _ => ?_)
  refine q_lload_n (pc := 57) C dX8_digest_57 rfl 1 rfl ?_
  refine q_aload_n (pc := 58) C dX8_digest_58 rfl 3 rfl ?_
  refine q_iload_n (pc := 59) C dX8_digest_59 rfl 2 rfl ?_
  refine q_iload (pc := 60) C dX8_digest_60 0 rfl ?_
  obtain ⟨r66, S33, h67, hm⟩ := ob_some hm
  refine q_callV (pc := 62) (k := 0) (As := [.int (3 : Int32), .int (2 : Int32)]) (rest := [.long r65]) (T := TX8) C (c_Te_told hi h67) (by decide) (ce_0 _ _ _) (ci := 6) rfl tw_797 tw_710 tw_711 tw_2 tw_712 (by decide +kernel) (by decide) (by decide) rfl dX8_digest_62 ?_
  obtain ⟨r67, h68, hm⟩ := o1_some hm
  refine q_callS (pc := 65) (As := [.long r65, .int r66]) (rest := []) C (c_Te_mixed hi h68) tw_787 tw_788 tw_2 tw_789 (by decide +kernel) (by decide) (by decide) rfl dX8_digest_65 ?_
  refine q_lstore_n (pc := 68) (lv' := [(1, .long r67), (4, .int (2 : Int32)), (3, .int (3 : Int32)), (0, .ref (gad G 0))]) C dX8_digest_68 rfl (by decide) rfl ?_
  refine q_iinc (pc := 69) (k := 1) (v := (3 : Int32)) (lv' := [(4, .int (3 : Int32)), (1, .long r67), (3, .int (3 : Int32)), (0, .ref (gad G 0))]) C dX8_digest_69 rfl (by decide) (by decide) rfl ?_
  refine q_goto (pc := 72) (tgt := 50) C dX8_digest_72 (by decide) ?_
  refine q_iload (pc := 50) C dX8_digest_50 0 rfl ?_
  refine q_bipush (pc := 52) (v := (7 : Int32)) C dX8_digest_52 (by decide) ?_
  refine q_icmp_gt (pc := 54) (tgt := 75) C dX8_digest_54 (by decide) (fun c => absurd c (by decide)) (fun _ => ?_)
  refine q_lload_n (pc := 57) C dX8_digest_57 rfl 1 rfl ?_
  refine q_aload_n (pc := 58) C dX8_digest_58 rfl 3 rfl ?_
  refine q_iload_n (pc := 59) C dX8_digest_59 rfl 2 rfl ?_
  refine q_iload (pc := 60) C dX8_digest_60 0 rfl ?_
  obtain ⟨r68, S34, h69, hm⟩ := ob_some hm
  refine q_callV (pc := 62) (k := 0) (As := [.int (3 : Int32), .int (3 : Int32)]) (rest := [.long r67]) (T := TX8) C (c_Te_told hi h69) (by decide) (ce_0 _ _ _) (ci := 6) rfl tw_797 tw_710 tw_711 tw_2 tw_712 (by decide +kernel) (by decide) (by decide) rfl dX8_digest_62 ?_
  obtain ⟨r69, h70, hm⟩ := o1_some hm
  refine q_callS (pc := 65) (As := [.long r67, .int r68]) (rest := []) C (c_Te_mixed hi h70) tw_787 tw_788 tw_2 tw_789 (by decide +kernel) (by decide) (by decide) rfl dX8_digest_65 ?_
  refine q_lstore_n (pc := 68) (lv' := [(1, .long r69), (4, .int (3 : Int32)), (3, .int (3 : Int32)), (0, .ref (gad G 0))]) C dX8_digest_68 rfl (by decide) rfl ?_
  refine q_iinc (pc := 69) (k := 1) (v := (4 : Int32)) (lv' := [(4, .int (4 : Int32)), (1, .long r69), (3, .int (3 : Int32)), (0, .ref (gad G 0))]) C dX8_digest_69 rfl (by decide) (by decide) rfl ?_
  refine q_goto (pc := 72) (tgt := 50) C dX8_digest_72 (by decide) ?_
  refine q_iload (pc := 50) C dX8_digest_50 0 rfl ?_
  refine q_bipush (pc := 52) (v := (7 : Int32)) C dX8_digest_52 (by decide) ?_
  refine q_icmp_gt (pc := 54) (tgt := 75) C dX8_digest_54 (by decide) (fun c => absurd c (by decide)) (fun _ => ?_)
  refine q_lload_n (pc := 57) C dX8_digest_57 rfl 1 rfl ?_
  refine q_aload_n (pc := 58) C dX8_digest_58 rfl 3 rfl ?_
  refine q_iload_n (pc := 59) C dX8_digest_59 rfl 2 rfl ?_
  refine q_iload (pc := 60) C dX8_digest_60 0 rfl ?_
  obtain ⟨r70, S35, h71, hm⟩ := ob_some hm
  refine q_callV (pc := 62) (k := 0) (As := [.int (3 : Int32), .int (4 : Int32)]) (rest := [.long r69]) (T := TX8) C (c_Te_told hi h71) (by decide) (ce_0 _ _ _) (ci := 6) rfl tw_797 tw_710 tw_711 tw_2 tw_712 (by decide +kernel) (by decide) (by decide) rfl dX8_digest_62 ?_
  obtain ⟨r71, h72, hm⟩ := o1_some hm
  refine q_callS (pc := 65) (As := [.long r69, .int r70]) (rest := []) C (c_Te_mixed hi h72) tw_787 tw_788 tw_2 tw_789 (by decide +kernel) (by decide) (by decide) rfl dX8_digest_65 ?_
  refine q_lstore_n (pc := 68) (lv' := [(1, .long r71), (4, .int (4 : Int32)), (3, .int (3 : Int32)), (0, .ref (gad G 0))]) C dX8_digest_68 rfl (by decide) rfl ?_
  refine q_iinc (pc := 69) (k := 1) (v := (5 : Int32)) (lv' := [(4, .int (5 : Int32)), (1, .long r71), (3, .int (3 : Int32)), (0, .ref (gad G 0))]) C dX8_digest_69 rfl (by decide) (by decide) rfl ?_
  refine q_goto (pc := 72) (tgt := 50) C dX8_digest_72 (by decide) ?_
  refine q_iload (pc := 50) C dX8_digest_50 0 rfl ?_
  refine q_bipush (pc := 52) (v := (7 : Int32)) C dX8_digest_52 (by decide) ?_
  refine q_icmp_gt (pc := 54) (tgt := 75) C dX8_digest_54 (by decide) (fun c => absurd c (by decide)) (fun _ => ?_)
  refine q_lload_n (pc := 57) C dX8_digest_57 rfl 1 rfl ?_
  refine q_aload_n (pc := 58) C dX8_digest_58 rfl 3 rfl ?_
  refine q_iload_n (pc := 59) C dX8_digest_59 rfl 2 rfl ?_
  refine q_iload (pc := 60) C dX8_digest_60 0 rfl ?_
  obtain ⟨r72, S36, h73, hm⟩ := ob_some hm
  refine q_callV (pc := 62) (k := 0) (As := [.int (3 : Int32), .int (5 : Int32)]) (rest := [.long r71]) (T := TX8) C (c_Te_told hi h73) (by decide) (ce_0 _ _ _) (ci := 6) rfl tw_797 tw_710 tw_711 tw_2 tw_712 (by decide +kernel) (by decide) (by decide) rfl dX8_digest_62 ?_
  obtain ⟨r73, h74, hm⟩ := o1_some hm
  refine q_callS (pc := 65) (As := [.long r71, .int r72]) (rest := []) C (c_Te_mixed hi h74) tw_787 tw_788 tw_2 tw_789 (by decide +kernel) (by decide) (by decide) rfl dX8_digest_65 ?_
  refine q_lstore_n (pc := 68) (lv' := [(1, .long r73), (4, .int (5 : Int32)), (3, .int (3 : Int32)), (0, .ref (gad G 0))]) C dX8_digest_68 rfl (by decide) rfl ?_
  refine q_iinc (pc := 69) (k := 1) (v := (6 : Int32)) (lv' := [(4, .int (6 : Int32)), (1, .long r73), (3, .int (3 : Int32)), (0, .ref (gad G 0))]) C dX8_digest_69 rfl (by decide) (by decide) rfl ?_
  refine q_goto (pc := 72) (tgt := 50) C dX8_digest_72 (by decide) ?_
  refine q_iload (pc := 50) C dX8_digest_50 0 rfl ?_
  refine q_bipush (pc := 52) (v := (7 : Int32)) C dX8_digest_52 (by decide) ?_
  refine q_icmp_gt (pc := 54) (tgt := 75) C dX8_digest_54 (by decide) (fun c => absurd c (by decide)) (fun _ => ?_)
  refine q_lload_n (pc := 57) C dX8_digest_57 rfl 1 rfl ?_
  refine q_aload_n (pc := 58) C dX8_digest_58 rfl 3 rfl ?_
  refine q_iload_n (pc := 59) C dX8_digest_59 rfl 2 rfl ?_
  refine q_iload (pc := 60) C dX8_digest_60 0 rfl ?_
  obtain ⟨r74, S37, h75, hm⟩ := ob_some hm
  refine q_callV (pc := 62) (k := 0) (As := [.int (3 : Int32), .int (6 : Int32)]) (rest := [.long r73]) (T := TX8) C (c_Te_told hi h75) (by decide) (ce_0 _ _ _) (ci := 6) rfl tw_797 tw_710 tw_711 tw_2 tw_712 (by decide +kernel) (by decide) (by decide) rfl dX8_digest_62 ?_
  obtain ⟨r75, h76, hm⟩ := o1_some hm
  refine q_callS (pc := 65) (As := [.long r73, .int r74]) (rest := []) C (c_Te_mixed hi h76) tw_787 tw_788 tw_2 tw_789 (by decide +kernel) (by decide) (by decide) rfl dX8_digest_65 ?_
  refine q_lstore_n (pc := 68) (lv' := [(1, .long r75), (4, .int (6 : Int32)), (3, .int (3 : Int32)), (0, .ref (gad G 0))]) C dX8_digest_68 rfl (by decide) rfl ?_
  refine q_iinc (pc := 69) (k := 1) (v := (7 : Int32)) (lv' := [(4, .int (7 : Int32)), (1, .long r75), (3, .int (3 : Int32)), (0, .ref (gad G 0))]) C dX8_digest_69 rfl (by decide) (by decide) rfl ?_
  refine q_goto (pc := 72) (tgt := 50) C dX8_digest_72 (by decide) ?_
  refine q_iload (pc := 50) C dX8_digest_50 0 rfl ?_
  refine q_bipush (pc := 52) (v := (7 : Int32)) C dX8_digest_52 (by decide) ?_
  refine q_icmp_gt (pc := 54) (tgt := 75) C dX8_digest_54 (by decide) (fun c => absurd c (by decide)) (fun _ => ?_)
  refine q_lload_n (pc := 57) C dX8_digest_57 rfl 1 rfl ?_
  refine q_aload_n (pc := 58) C dX8_digest_58 rfl 3 rfl ?_
  refine q_iload_n (pc := 59) C dX8_digest_59 rfl 2 rfl ?_
  refine q_iload (pc := 60) C dX8_digest_60 0 rfl ?_
  obtain ⟨r76, S38, h77, hm⟩ := ob_some hm
  refine q_callV (pc := 62) (k := 0) (As := [.int (3 : Int32), .int (7 : Int32)]) (rest := [.long r75]) (T := TX8) C (c_Te_told hi h77) (by decide) (ce_0 _ _ _) (ci := 6) rfl tw_797 tw_710 tw_711 tw_2 tw_712 (by decide +kernel) (by decide) (by decide) rfl dX8_digest_62 ?_
  obtain ⟨r77, h78, hm⟩ := o1_some hm
  refine q_callS (pc := 65) (As := [.long r75, .int r76]) (rest := []) C (c_Te_mixed hi h78) tw_787 tw_788 tw_2 tw_789 (by decide +kernel) (by decide) (by decide) rfl dX8_digest_65 ?_
  refine q_lstore_n (pc := 68) (lv' := [(1, .long r77), (4, .int (7 : Int32)), (3, .int (3 : Int32)), (0, .ref (gad G 0))]) C dX8_digest_68 rfl (by decide) rfl ?_
  refine q_iinc (pc := 69) (k := 1) (v := (8 : Int32)) (lv' := [(4, .int (8 : Int32)), (1, .long r77), (3, .int (3 : Int32)), (0, .ref (gad G 0))]) C dX8_digest_69 rfl (by decide) (by decide) rfl ?_
  refine q_goto (pc := 72) (tgt := 50) C dX8_digest_72 (by decide) ?_
  refine q_iload (pc := 50) C dX8_digest_50 0 rfl ?_
  refine q_bipush (pc := 52) (v := (7 : Int32)) C dX8_digest_52 (by decide) ?_
  refine q_icmp_gt (pc := 54) (tgt := 75) C dX8_digest_54 (by decide) (fun _ => ?_) (fun c => absurd c (by decide))
  refine q_lload_n (pc := 75) C dX8_digest_75 rfl 1 rfl ?_
  refine q_aload_n (pc := 76) C dX8_digest_76 rfl 3 rfl ?_
  refine q_iload_n (pc := 77) C dX8_digest_77 rfl 2 rfl ?_
  obtain ⟨r78, S39, h79, hm⟩ := ob_some hm
  refine q_callV (pc := 78) (k := 0) (As := [.int (3 : Int32)]) (rest := [.long r77]) (T := TX8) C (c_Te_wouldGo hi h79) (by decide) (ce_0 _ _ _) (ci := 6) rfl tw_798 tw_799 tw_800 tw_2 tw_801 (by decide +kernel) (by decide) (by decide) rfl dX8_digest_78 ?_
  obtain ⟨r79, h80, hm⟩ := o1_some hm
  refine q_callS (pc := 81) (As := [.long r77, .int r78]) (rest := []) C (c_Te_mixed hi h80) tw_787 tw_788 tw_2 tw_789 (by decide +kernel) (by decide) (by decide) rfl dX8_digest_81 ?_
  refine q_lstore_n (pc := 84) (lv' := [(1, .long r79), (4, .int (8 : Int32)), (3, .int (3 : Int32)), (0, .ref (gad G 0))]) C dX8_digest_84 rfl (by decide) rfl ?_
  refine q_lload_n (pc := 85) C dX8_digest_85 rfl 0 rfl ?_
  refine q_aload_n (pc := 86) C dX8_digest_86 rfl 3 rfl ?_
  refine q_iload_n (pc := 87) C dX8_digest_87 rfl 2 rfl ?_
  obtain ⟨r80, S40, h81, hm⟩ := ob_some hm
  refine q_callV (pc := 88) (k := 0) (As := [.int (3 : Int32)]) (rest := [.long r79]) (T := TX8) C (c_Te_wouldWork hi h81) (by decide) (ce_0 _ _ _) (ci := 6) rfl tw_831 tw_832 tw_833 tw_2 tw_834 (by decide +kernel) (by decide) (by decide) rfl dX8_digest_88 ?_
  obtain ⟨r81, h82, hm⟩ := o1_some hm
  refine q_callS (pc := 91) (As := [.long r79, .int r80]) (rest := []) C (c_Te_mixed hi h82) tw_787 tw_788 tw_2 tw_789 (by decide +kernel) (by decide) (by decide) rfl dX8_digest_91 ?_
  refine q_lstore_n (pc := 94) (lv' := [(1, .long r81), (4, .int (8 : Int32)), (3, .int (3 : Int32)), (0, .ref (gad G 0))]) C dX8_digest_94 rfl (by decide) rfl ?_
  refine q_iinc (pc := 95) (k := 2) (v := (4 : Int32)) (lv' := [(3, .int (4 : Int32)), (1, .long r81), (4, .int (8 : Int32)), (0, .ref (gad G 0))]) C dX8_digest_95 rfl (by decide) (by decide) rfl ?_
  refine q_goto (pc := 98) (tgt := 42) C dX8_digest_98 (by decide) ?_
  refine q_iload_n (pc := 42) C dX8_digest_42 rfl 0 rfl ?_
  refine q_iconst (pc := 43) (v := (4 : Int32)) C dX8_digest_43 (by decide) ?_
  refine q_icmp_ge (pc := 44) (tgt := 101) C dX8_digest_44 (by decide) (fun _ => ?_) (fun c => absurd c (by decide))
  refine q_iconst (pc := 101) (v := (0 : Int32)) C dX8_digest_101 (by decide) ?_
  refine q_istore_n (pc := 102) (lv' := [(3, .int (0 : Int32)), (1, .long r81), (4, .int (8 : Int32)), (0, .ref (gad G 0))]) C dX8_digest_102 rfl (by decide) rfl ?_
  refine q_iload_n (pc := 103) C dX8_digest_103 rfl 0 rfl ?_
  refine q_iconst (pc := 104) (v := (3 : Int32)) C dX8_digest_104 (by decide) ?_
  refine q_icmp_gt (pc := 105) (tgt := 124) C dX8_digest_105 (by decide) (fun c => absurd c (by decide)) (fun _ => ?_)
  refine q_lload_n (pc := 108) C dX8_digest_108 rfl 1 rfl ?_
  refine q_aload_n (pc := 109) C dX8_digest_109 rfl 3 rfl ?_
  refine q_iload_n (pc := 110) C dX8_digest_110 rfl 0 rfl ?_
  obtain ⟨r82, h83, hm⟩ := o1_some hm
  refine q_callV (pc := 111) (k := 0) (As := [.int (0 : Int32)]) (rest := [.long r81]) (T := TX8) C (c_Te_more hi h83) (by decide) (ce_0 _ _ _) (ci := 6) rfl tw_852 tw_853 tw_854 tw_2 tw_855 (by decide +kernel) (by decide) (by decide) rfl dX8_digest_111 ?_
  obtain ⟨r83, h84, hm⟩ := o1_some hm
  refine q_callS (pc := 114) (As := [.long r81, .int r82]) (rest := []) C (c_Te_mixed hi h84) tw_787 tw_788 tw_2 tw_789 (by decide +kernel) (by decide) (by decide) rfl dX8_digest_114 ?_
  refine q_lstore_n (pc := 117) (lv' := [(1, .long r83), (3, .int (0 : Int32)), (4, .int (8 : Int32)), (0, .ref (gad G 0))]) C dX8_digest_117 rfl (by decide) rfl ?_
  refine q_iinc (pc := 118) (k := 1) (v := (1 : Int32)) (lv' := [(3, .int (1 : Int32)), (1, .long r83), (4, .int (8 : Int32)), (0, .ref (gad G 0))]) C dX8_digest_118 rfl (by decide) (by decide) rfl ?_
  refine q_goto (pc := 121) (tgt := 103) C dX8_digest_121 (by decide) ?_
  refine q_iload_n (pc := 103) C dX8_digest_103 rfl 0 rfl ?_
  refine q_iconst (pc := 104) (v := (3 : Int32)) C dX8_digest_104 (by decide) ?_
  refine q_icmp_gt (pc := 105) (tgt := 124) C dX8_digest_105 (by decide) (fun c => absurd c (by decide)) (fun _ => ?_)
  refine q_lload_n (pc := 108) C dX8_digest_108 rfl 1 rfl ?_
  refine q_aload_n (pc := 109) C dX8_digest_109 rfl 3 rfl ?_
  refine q_iload_n (pc := 110) C dX8_digest_110 rfl 0 rfl ?_
  obtain ⟨r84, h85, hm⟩ := o1_some hm
  refine q_callV (pc := 111) (k := 0) (As := [.int (1 : Int32)]) (rest := [.long r83]) (T := TX8) C (c_Te_more hi h85) (by decide) (ce_0 _ _ _) (ci := 6) rfl tw_852 tw_853 tw_854 tw_2 tw_855 (by decide +kernel) (by decide) (by decide) rfl dX8_digest_111 ?_
  obtain ⟨r85, h86, hm⟩ := o1_some hm
  refine q_callS (pc := 114) (As := [.long r83, .int r84]) (rest := []) C (c_Te_mixed hi h86) tw_787 tw_788 tw_2 tw_789 (by decide +kernel) (by decide) (by decide) rfl dX8_digest_114 ?_
  refine q_lstore_n (pc := 117) (lv' := [(1, .long r85), (3, .int (1 : Int32)), (4, .int (8 : Int32)), (0, .ref (gad G 0))]) C dX8_digest_117 rfl (by decide) rfl ?_
  refine q_iinc (pc := 118) (k := 1) (v := (2 : Int32)) (lv' := [(3, .int (2 : Int32)), (1, .long r85), (4, .int (8 : Int32)), (0, .ref (gad G 0))]) C dX8_digest_118 rfl (by decide) (by decide) rfl ?_
  refine q_goto (pc := 121) (tgt := 103) C dX8_digest_121 (by decide) ?_
  refine q_iload_n (pc := 103) C dX8_digest_103 rfl 0 rfl ?_
  refine q_iconst (pc := 104) (v := (3 : Int32)) C dX8_digest_104 (by decide) ?_
  refine q_icmp_gt (pc := 105) (tgt := 124) C dX8_digest_105 (by decide) (fun c => absurd c (by decide)) (fun _ => ?_)
  refine q_lload_n (pc := 108) C dX8_digest_108 rfl 1 rfl ?_
  refine q_aload_n (pc := 109) C dX8_digest_109 rfl 3 rfl ?_
  refine q_iload_n (pc := 110) C dX8_digest_110 rfl 0 rfl ?_
  obtain ⟨r86, h87, hm⟩ := o1_some hm
  refine q_callV (pc := 111) (k := 0) (As := [.int (2 : Int32)]) (rest := [.long r85]) (T := TX8) C (c_Te_more hi h87) (by decide) (ce_0 _ _ _) (ci := 6) rfl tw_852 tw_853 tw_854 tw_2 tw_855 (by decide +kernel) (by decide) (by decide) rfl dX8_digest_111 ?_
  obtain ⟨r87, h88, hm⟩ := o1_some hm
  refine q_callS (pc := 114) (As := [.long r85, .int r86]) (rest := []) C (c_Te_mixed hi h88) tw_787 tw_788 tw_2 tw_789 (by decide +kernel) (by decide) (by decide) rfl dX8_digest_114 ?_
  refine q_lstore_n (pc := 117) (lv' := [(1, .long r87), (3, .int (2 : Int32)), (4, .int (8 : Int32)), (0, .ref (gad G 0))]) C dX8_digest_117 rfl (by decide) rfl ?_
  refine q_iinc (pc := 118) (k := 1) (v := (3 : Int32)) (lv' := [(3, .int (3 : Int32)), (1, .long r87), (4, .int (8 : Int32)), (0, .ref (gad G 0))]) C dX8_digest_118 rfl (by decide) (by decide) rfl ?_
  refine q_goto (pc := 121) (tgt := 103) C dX8_digest_121 (by decide) ?_
  refine q_iload_n (pc := 103) C dX8_digest_103 rfl 0 rfl ?_
  refine q_iconst (pc := 104) (v := (3 : Int32)) C dX8_digest_104 (by decide) ?_
  refine q_icmp_gt (pc := 105) (tgt := 124) C dX8_digest_105 (by decide) (fun c => absurd c (by decide)) (fun _ => ?_)
  refine q_lload_n (pc := 108) C dX8_digest_108 rfl 1 rfl ?_
  refine q_aload_n (pc := 109) C dX8_digest_109 rfl 3 rfl ?_
  refine q_iload_n (pc := 110) C dX8_digest_110 rfl 0 rfl ?_
  obtain ⟨r88, h89, hm⟩ := o1_some hm
  refine q_callV (pc := 111) (k := 0) (As := [.int (3 : Int32)]) (rest := [.long r87]) (T := TX8) C (c_Te_more hi h89) (by decide) (ce_0 _ _ _) (ci := 6) rfl tw_852 tw_853 tw_854 tw_2 tw_855 (by decide +kernel) (by decide) (by decide) rfl dX8_digest_111 ?_
  obtain ⟨r89, h90, hm⟩ := o1_some hm
  refine q_callS (pc := 114) (As := [.long r87, .int r88]) (rest := []) C (c_Te_mixed hi h90) tw_787 tw_788 tw_2 tw_789 (by decide +kernel) (by decide) (by decide) rfl dX8_digest_114 ?_
  refine q_lstore_n (pc := 117) (lv' := [(1, .long r89), (3, .int (3 : Int32)), (4, .int (8 : Int32)), (0, .ref (gad G 0))]) C dX8_digest_117 rfl (by decide) rfl ?_
  refine q_iinc (pc := 118) (k := 1) (v := (4 : Int32)) (lv' := [(3, .int (4 : Int32)), (1, .long r89), (4, .int (8 : Int32)), (0, .ref (gad G 0))]) C dX8_digest_118 rfl (by decide) (by decide) rfl ?_
  refine q_goto (pc := 121) (tgt := 103) C dX8_digest_121 (by decide) ?_
  refine q_iload_n (pc := 103) C dX8_digest_103 rfl 0 rfl ?_
  refine q_iconst (pc := 104) (v := (3 : Int32)) C dX8_digest_104 (by decide) ?_
  refine q_icmp_gt (pc := 105) (tgt := 124) C dX8_digest_105 (by decide) (fun _ => ?_) (fun c => absurd c (by decide))
  refine q_iconst (pc := 124) (v := (0 : Int32)) C dX8_digest_124 (by decide) ?_
  refine q_istore_n (pc := 125) (lv' := [(3, .int (0 : Int32)), (1, .long r89), (4, .int (8 : Int32)), (0, .ref (gad G 0))]) C dX8_digest_125 rfl (by decide) rfl ?_
  refine q_iload_n (pc := 126) C dX8_digest_126 rfl 0 rfl ?_
  refine q_bipush (pc := 127) (v := (6 : Int32)) C dX8_digest_127 (by decide) ?_
  refine q_icmp_ge (pc := 129) (tgt := 148) C dX8_digest_129 (by decide) (fun c => absurd c (by decide)) (fun _ => ?_)
  refine q_lload_n (pc := 132) C dX8_digest_132 rfl 1 rfl ?_
  refine q_aload_n (pc := 133) C dX8_digest_133 rfl 3 rfl ?_
  refine q_iload_n (pc := 134) C dX8_digest_134 rfl 0 rfl ?_
  obtain ⟨r90, S41, h91, hm⟩ := ob_some hm
  refine q_callV (pc := 135) (k := 0) (As := [.int (0 : Int32)]) (rest := [.long r89]) (T := TX8) C (c_Te_wouldLose hi h91) (by decide) (ce_0 _ _ _) (ci := 6) rfl tw_860 tw_861 tw_862 tw_2 tw_863 (by decide +kernel) (by decide) (by decide) rfl dX8_digest_135 ?_
  obtain ⟨r91, h92, hm⟩ := o1_some hm
  refine q_callS (pc := 138) (As := [.long r89, .int r90]) (rest := []) C (c_Te_mixed hi h92) tw_787 tw_788 tw_2 tw_789 (by decide +kernel) (by decide) (by decide) rfl dX8_digest_138 ?_
  refine q_lstore_n (pc := 141) (lv' := [(1, .long r91), (3, .int (0 : Int32)), (4, .int (8 : Int32)), (0, .ref (gad G 0))]) C dX8_digest_141 rfl (by decide) rfl ?_
  refine q_iinc (pc := 142) (k := 1) (v := (1 : Int32)) (lv' := [(3, .int (1 : Int32)), (1, .long r91), (4, .int (8 : Int32)), (0, .ref (gad G 0))]) C dX8_digest_142 rfl (by decide) (by decide) rfl ?_
  refine q_goto (pc := 145) (tgt := 126) C dX8_digest_145 (by decide) ?_
  refine q_iload_n (pc := 126) C dX8_digest_126 rfl 0 rfl ?_
  refine q_bipush (pc := 127) (v := (6 : Int32)) C dX8_digest_127 (by decide) ?_
  refine q_icmp_ge (pc := 129) (tgt := 148) C dX8_digest_129 (by decide) (fun c => absurd c (by decide)) (fun _ => ?_)
  refine q_lload_n (pc := 132) C dX8_digest_132 rfl 1 rfl ?_
  refine q_aload_n (pc := 133) C dX8_digest_133 rfl 3 rfl ?_
  refine q_iload_n (pc := 134) C dX8_digest_134 rfl 0 rfl ?_
  obtain ⟨r92, S42, h93, hm⟩ := ob_some hm
  refine q_callV (pc := 135) (k := 0) (As := [.int (1 : Int32)]) (rest := [.long r91]) (T := TX8) C (c_Te_wouldLose hi h93) (by decide) (ce_0 _ _ _) (ci := 6) rfl tw_860 tw_861 tw_862 tw_2 tw_863 (by decide +kernel) (by decide) (by decide) rfl dX8_digest_135 ?_
  obtain ⟨r93, h94, hm⟩ := o1_some hm
  refine q_callS (pc := 138) (As := [.long r91, .int r92]) (rest := []) C (c_Te_mixed hi h94) tw_787 tw_788 tw_2 tw_789 (by decide +kernel) (by decide) (by decide) rfl dX8_digest_138 ?_
  refine q_lstore_n (pc := 141) (lv' := [(1, .long r93), (3, .int (1 : Int32)), (4, .int (8 : Int32)), (0, .ref (gad G 0))]) C dX8_digest_141 rfl (by decide) rfl ?_
  refine q_iinc (pc := 142) (k := 1) (v := (2 : Int32)) (lv' := [(3, .int (2 : Int32)), (1, .long r93), (4, .int (8 : Int32)), (0, .ref (gad G 0))]) C dX8_digest_142 rfl (by decide) (by decide) rfl ?_
  refine q_goto (pc := 145) (tgt := 126) C dX8_digest_145 (by decide) ?_
  refine q_iload_n (pc := 126) C dX8_digest_126 rfl 0 rfl ?_
  refine q_bipush (pc := 127) (v := (6 : Int32)) C dX8_digest_127 (by decide) ?_
  refine q_icmp_ge (pc := 129) (tgt := 148) C dX8_digest_129 (by decide) (fun c => absurd c (by decide)) (fun _ => ?_)
  refine q_lload_n (pc := 132) C dX8_digest_132 rfl 1 rfl ?_
  refine q_aload_n (pc := 133) C dX8_digest_133 rfl 3 rfl ?_
  refine q_iload_n (pc := 134) C dX8_digest_134 rfl 0 rfl ?_
  obtain ⟨r94, S43, h95, hm⟩ := ob_some hm
  refine q_callV (pc := 135) (k := 0) (As := [.int (2 : Int32)]) (rest := [.long r93]) (T := TX8) C (c_Te_wouldLose hi h95) (by decide) (ce_0 _ _ _) (ci := 6) rfl tw_860 tw_861 tw_862 tw_2 tw_863 (by decide +kernel) (by decide) (by decide) rfl dX8_digest_135 ?_
  obtain ⟨r95, h96, hm⟩ := o1_some hm
  refine q_callS (pc := 138) (As := [.long r93, .int r94]) (rest := []) C (c_Te_mixed hi h96) tw_787 tw_788 tw_2 tw_789 (by decide +kernel) (by decide) (by decide) rfl dX8_digest_138 ?_
  refine q_lstore_n (pc := 141) (lv' := [(1, .long r95), (3, .int (2 : Int32)), (4, .int (8 : Int32)), (0, .ref (gad G 0))]) C dX8_digest_141 rfl (by decide) rfl ?_
  refine q_iinc (pc := 142) (k := 1) (v := (3 : Int32)) (lv' := [(3, .int (3 : Int32)), (1, .long r95), (4, .int (8 : Int32)), (0, .ref (gad G 0))]) C dX8_digest_142 rfl (by decide) (by decide) rfl ?_
  refine q_goto (pc := 145) (tgt := 126) C dX8_digest_145 (by decide) ?_
  refine q_iload_n (pc := 126) C dX8_digest_126 rfl 0 rfl ?_
  refine q_bipush (pc := 127) (v := (6 : Int32)) C dX8_digest_127 (by decide) ?_
  refine q_icmp_ge (pc := 129) (tgt := 148) C dX8_digest_129 (by decide) (fun c => absurd c (by decide)) (fun _ => ?_)
  refine q_lload_n (pc := 132) C dX8_digest_132 rfl 1 rfl ?_
  refine q_aload_n (pc := 133) C dX8_digest_133 rfl 3 rfl ?_
  refine q_iload_n (pc := 134) C dX8_digest_134 rfl 0 rfl ?_
  obtain ⟨r96, S44, h97, hm⟩ := ob_some hm
  refine q_callV (pc := 135) (k := 0) (As := [.int (3 : Int32)]) (rest := [.long r95]) (T := TX8) C (c_Te_wouldLose hi h97) (by decide) (ce_0 _ _ _) (ci := 6) rfl tw_860 tw_861 tw_862 tw_2 tw_863 (by decide +kernel) (by decide) (by decide) rfl dX8_digest_135 ?_
  obtain ⟨r97, h98, hm⟩ := o1_some hm
  refine q_callS (pc := 138) (As := [.long r95, .int r96]) (rest := []) C (c_Te_mixed hi h98) tw_787 tw_788 tw_2 tw_789 (by decide +kernel) (by decide) (by decide) rfl dX8_digest_138 ?_
  refine q_lstore_n (pc := 141) (lv' := [(1, .long r97), (3, .int (3 : Int32)), (4, .int (8 : Int32)), (0, .ref (gad G 0))]) C dX8_digest_141 rfl (by decide) rfl ?_
  refine q_iinc (pc := 142) (k := 1) (v := (4 : Int32)) (lv' := [(3, .int (4 : Int32)), (1, .long r97), (4, .int (8 : Int32)), (0, .ref (gad G 0))]) C dX8_digest_142 rfl (by decide) (by decide) rfl ?_
  refine q_goto (pc := 145) (tgt := 126) C dX8_digest_145 (by decide) ?_
  refine q_iload_n (pc := 126) C dX8_digest_126 rfl 0 rfl ?_
  refine q_bipush (pc := 127) (v := (6 : Int32)) C dX8_digest_127 (by decide) ?_
  refine q_icmp_ge (pc := 129) (tgt := 148) C dX8_digest_129 (by decide) (fun c => absurd c (by decide)) (fun _ => ?_)
  refine q_lload_n (pc := 132) C dX8_digest_132 rfl 1 rfl ?_
  refine q_aload_n (pc := 133) C dX8_digest_133 rfl 3 rfl ?_
  refine q_iload_n (pc := 134) C dX8_digest_134 rfl 0 rfl ?_
  obtain ⟨r98, S45, h99, hm⟩ := ob_some hm
  refine q_callV (pc := 135) (k := 0) (As := [.int (4 : Int32)]) (rest := [.long r97]) (T := TX8) C (c_Te_wouldLose hi h99) (by decide) (ce_0 _ _ _) (ci := 6) rfl tw_860 tw_861 tw_862 tw_2 tw_863 (by decide +kernel) (by decide) (by decide) rfl dX8_digest_135 ?_
  obtain ⟨r99, h100, hm⟩ := o1_some hm
  refine q_callS (pc := 138) (As := [.long r97, .int r98]) (rest := []) C (c_Te_mixed hi h100) tw_787 tw_788 tw_2 tw_789 (by decide +kernel) (by decide) (by decide) rfl dX8_digest_138 ?_
  refine q_lstore_n (pc := 141) (lv' := [(1, .long r99), (3, .int (4 : Int32)), (4, .int (8 : Int32)), (0, .ref (gad G 0))]) C dX8_digest_141 rfl (by decide) rfl ?_
  refine q_iinc (pc := 142) (k := 1) (v := (5 : Int32)) (lv' := [(3, .int (5 : Int32)), (1, .long r99), (4, .int (8 : Int32)), (0, .ref (gad G 0))]) C dX8_digest_142 rfl (by decide) (by decide) rfl ?_
  refine q_goto (pc := 145) (tgt := 126) C dX8_digest_145 (by decide) ?_
  refine q_iload_n (pc := 126) C dX8_digest_126 rfl 0 rfl ?_
  refine q_bipush (pc := 127) (v := (6 : Int32)) C dX8_digest_127 (by decide) ?_
  refine q_icmp_ge (pc := 129) (tgt := 148) C dX8_digest_129 (by decide) (fun c => absurd c (by decide)) (fun _ => ?_)
  refine q_lload_n (pc := 132) C dX8_digest_132 rfl 1 rfl ?_
  refine q_aload_n (pc := 133) C dX8_digest_133 rfl 3 rfl ?_
  refine q_iload_n (pc := 134) C dX8_digest_134 rfl 0 rfl ?_
  obtain ⟨r100, S46, h101, hm⟩ := ob_some hm
  refine q_callV (pc := 135) (k := 0) (As := [.int (5 : Int32)]) (rest := [.long r99]) (T := TX8) C (c_Te_wouldLose hi h101) (by decide) (ce_0 _ _ _) (ci := 6) rfl tw_860 tw_861 tw_862 tw_2 tw_863 (by decide +kernel) (by decide) (by decide) rfl dX8_digest_135 ?_
  obtain ⟨r101, h102, hm⟩ := o1_some hm
  refine q_callS (pc := 138) (As := [.long r99, .int r100]) (rest := []) C (c_Te_mixed hi h102) tw_787 tw_788 tw_2 tw_789 (by decide +kernel) (by decide) (by decide) rfl dX8_digest_138 ?_
  refine q_lstore_n (pc := 141) (lv' := [(1, .long r101), (3, .int (5 : Int32)), (4, .int (8 : Int32)), (0, .ref (gad G 0))]) C dX8_digest_141 rfl (by decide) rfl ?_
  refine q_iinc (pc := 142) (k := 1) (v := (6 : Int32)) (lv' := [(3, .int (6 : Int32)), (1, .long r101), (4, .int (8 : Int32)), (0, .ref (gad G 0))]) C dX8_digest_142 rfl (by decide) (by decide) rfl ?_
  refine q_goto (pc := 145) (tgt := 126) C dX8_digest_145 (by decide) ?_
  refine q_iload_n (pc := 126) C dX8_digest_126 rfl 0 rfl ?_
  refine q_bipush (pc := 127) (v := (6 : Int32)) C dX8_digest_127 (by decide) ?_
  refine q_icmp_ge (pc := 129) (tgt := 148) C dX8_digest_129 (by decide) (fun _ => ?_) (fun c => absurd c (by decide))
  refine q_lload_n (pc := 148) C dX8_digest_148 rfl 1 rfl ?_
  cases hm
  exact q_lret (pc := 149) C dX8_digest_149
set_option maxRecDepth 100000 in
theorem c_St_cleanUp_Cop_12 {G : Gx} (hi : qinj (gad G)) {S : St}  {r9 : Int32} {S9 : St} (hm : m_St_cleanUp_Cop S  = some (r9, S9)) : QMet G yX7_cleanUp cX7_cleanUp 1 (some .int) 4 90 [.ref (gad G 12)] S (some (.int r9)) S9 := by
  refine q_entry (by decide +kernel) rfl hi (by decide) ?_
  intro X C
  refine q_lv (lv' := [(0, .ref (gad G 12))]) [0] rfl ?_
  unfold m_St_cleanUp_Cop at hm
  refine q_aload_n (pc := 0) C dX7_cleanUp_0 rfl 0 rfl ?_
  refine q_get (pc := 1) (T := TX0) (v := .int (S 12 5)) C (by decide) (ce_12 _ _ _) (ci := 0) rfl inlX0 (j := 5) (by decide) rfl tw_136 (Or.inl rfl) dX7_cleanUp_1 ?_
  refine q_if_eq (pc := 4) (tgt := 11) C dX7_cleanUp_4 (by decide) (fun c1 => ?_) (fun c1 => ?_)
  · replace hm := hm_t c1 hm
    refine q_aload_n (pc := 11) C dX7_cleanUp_11 rfl 0 rfl ?_
    obtain ⟨r1, S1, h1, hm⟩ := ob_some hm
    refine q_callU (pc := 12) (k := 12) (As := []) (rest := []) (T := TX0) (owner := "Tessera$Store") (x := ⟨"Tessera$Store", "collectNow", "()I"⟩) C (c_Cop_collectNow hi h1) (by decide) (ce_12 _ _ _) (ci := 0) rfl (Or.inr (Or.inl (by decide))) tw_879 tw_880 tw_239 tw_881 tw_26 tw_241 (by decide +kernel) (by decide) (by decide) rfl dX7_cleanUp_12 ?_
    cases hm
    exact q_iret (pc := 15) C dX7_cleanUp_15
  · replace hm := hm_f c1 hm
    refine q_iconst (pc := 7) (v := (0 : Int32)) C dX7_cleanUp_7 (by decide) ?_
    refine q_goto (pc := 8) (tgt := 15) C dX7_cleanUp_8 (by decide) ?_
    cases hm
    exact q_iret (pc := 15) C dX7_cleanUp_15
set_option maxRecDepth 100000 in
theorem c_St_cleanUp_Nur_18 {G : Gx} (hi : qinj (gad G)) {S : St}  {r9 : Int32} {S9 : St} (hm : m_St_cleanUp_Nur S  = some (r9, S9)) : QMet G yX7_cleanUp cX7_cleanUp 1 (some .int) 4 86 [.ref (gad G 18)] S (some (.int r9)) S9 := by
  refine q_entry (by decide +kernel) rfl hi (by decide) ?_
  intro X C
  refine q_lv (lv' := [(0, .ref (gad G 18))]) [0] rfl ?_
  unfold m_St_cleanUp_Nur at hm
  refine q_aload_n (pc := 0) C dX7_cleanUp_0 rfl 0 rfl ?_
  refine q_get (pc := 1) (T := TX4) (v := .int (S 18 5)) C (by decide) (ce_18 _ _ _) (ci := 4) rfl inlX4 (j := 5) (by decide) rfl tw_136 (Or.inl rfl) dX7_cleanUp_1 ?_
  refine q_if_eq (pc := 4) (tgt := 11) C dX7_cleanUp_4 (by decide) (fun c1 => ?_) (fun c1 => ?_)
  · replace hm := hm_t c1 hm
    refine q_aload_n (pc := 11) C dX7_cleanUp_11 rfl 0 rfl ?_
    obtain ⟨r1, S1, h1, hm⟩ := ob_some hm
    refine q_callU (pc := 12) (k := 18) (As := []) (rest := []) (T := TX4) (owner := "Tessera$Store") (x := ⟨"Tessera$Store", "collectNow", "()I"⟩) C (c_Nur_collectNow hi h1) (by decide) (ce_18 _ _ _) (ci := 4) rfl (Or.inr (Or.inl (by decide))) tw_879 tw_880 tw_509 tw_884 tw_16 tw_511 (by decide +kernel) (by decide) (by decide) rfl dX7_cleanUp_12 ?_
    cases hm
    exact q_iret (pc := 15) C dX7_cleanUp_15
  · replace hm := hm_f c1 hm
    refine q_iconst (pc := 7) (v := (0 : Int32)) C dX7_cleanUp_7 (by decide) ?_
    refine q_goto (pc := 8) (tgt := 15) C dX7_cleanUp_8 (by decide) ?_
    cases hm
    exact q_iret (pc := 15) C dX7_cleanUp_15
set_option maxRecDepth 100000 in
theorem c_St_cleanUp_Mar_31 {G : Gx} (hi : qinj (gad G)) {S : St}  {r9 : Int32} {S9 : St} (hm : m_St_cleanUp_Mar S  = some (r9, S9)) : QMet G yX7_cleanUp cX7_cleanUp 1 (some .int) 5 108 [.ref (gad G 31)] S (some (.int r9)) S9 := by
  refine q_entry (by decide +kernel) rfl hi (by decide) ?_
  intro X C
  refine q_lv (lv' := [(0, .ref (gad G 31))]) [0] rfl ?_
  unfold m_St_cleanUp_Mar at hm
  refine q_aload_n (pc := 0) C dX7_cleanUp_0 rfl 0 rfl ?_
  refine q_get (pc := 1) (T := TX3) (v := .int (S 31 6)) C (by decide) (ce_31 _ _ _) (ci := 3) rfl inlX3 (j := 6) (by decide) rfl tw_136 (Or.inl rfl) dX7_cleanUp_1 ?_
  refine q_if_eq (pc := 4) (tgt := 11) C dX7_cleanUp_4 (by decide) (fun c1 => ?_) (fun c1 => ?_)
  · replace hm := hm_t c1 hm
    refine q_aload_n (pc := 11) C dX7_cleanUp_11 rfl 0 rfl ?_
    obtain ⟨r1, S1, h1, hm⟩ := ob_some hm
    refine q_callU (pc := 12) (k := 31) (As := []) (rest := []) (T := TX3) (owner := "Tessera$Store") (x := ⟨"Tessera$Store", "collectNow", "()I"⟩) C (c_Mar_collectNow hi h1) (by decide) (ce_31 _ _ _) (ci := 3) rfl (Or.inr (Or.inl (by decide))) tw_879 tw_880 tw_472 tw_883 tw_19 tw_474 (by decide +kernel) (by decide) (by decide) rfl dX7_cleanUp_12 ?_
    cases hm
    exact q_iret (pc := 15) C dX7_cleanUp_15
  · replace hm := hm_f c1 hm
    refine q_iconst (pc := 7) (v := (0 : Int32)) C dX7_cleanUp_7 (by decide) ?_
    refine q_goto (pc := 8) (tgt := 15) C dX7_cleanUp_8 (by decide) ?_
    cases hm
    exact q_iret (pc := 15) C dX7_cleanUp_15
set_option maxRecDepth 100000 in
theorem c_St_cleanUp_Cou_42 {G : Gx} (hi : qinj (gad G)) {S : St}  {r9 : Int32} {S9 : St} (hm : m_St_cleanUp_Cou S  = some (r9, S9)) : QMet G yX7_cleanUp cX7_cleanUp 1 (some .int) 5 110 [.ref (gad G 42)] S (some (.int r9)) S9 := by
  refine q_entry (by decide +kernel) rfl hi (by decide) ?_
  intro X C
  refine q_lv (lv' := [(0, .ref (gad G 42))]) [0] rfl ?_
  unfold m_St_cleanUp_Cou at hm
  refine q_aload_n (pc := 0) C dX7_cleanUp_0 rfl 0 rfl ?_
  refine q_get (pc := 1) (T := TX1) (v := .int (S 42 6)) C (by decide) (ce_42 _ _ _) (ci := 1) rfl inlX1 (j := 6) (by decide) rfl tw_136 (Or.inl rfl) dX7_cleanUp_1 ?_
  refine q_if_eq (pc := 4) (tgt := 11) C dX7_cleanUp_4 (by decide) (fun c1 => ?_) (fun c1 => ?_)
  · replace hm := hm_t c1 hm
    refine q_aload_n (pc := 11) C dX7_cleanUp_11 rfl 0 rfl ?_
    obtain ⟨r1, S1, h1, hm⟩ := ob_some hm
    refine q_callU (pc := 12) (k := 42) (As := []) (rest := []) (T := TX1) (owner := "Tessera$Store") (x := ⟨"Tessera$Store", "collectNow", "()I"⟩) C (c_Cou_collectNow hi h1) (by decide) (ce_42 _ _ _) (ci := 1) rfl (Or.inr (Or.inl (by decide))) tw_879 tw_880 tw_347 tw_882 tw_22 tw_349 (by decide +kernel) (by decide) (by decide) rfl dX7_cleanUp_12 ?_
    cases hm
    exact q_iret (pc := 15) C dX7_cleanUp_15
  · replace hm := hm_f c1 hm
    refine q_iconst (pc := 7) (v := (0 : Int32)) C dX7_cleanUp_7 (by decide) ?_
    refine q_goto (pc := 8) (tgt := 15) C dX7_cleanUp_8 (by decide) ?_
    cases hm
    exact q_iret (pc := 15) C dX7_cleanUp_15
set_option maxRecDepth 100000 in
theorem c_Te_collect {G : Gx} (hi : qinj (gad G)) {S : St} {a1 : Int32} {r9 : Int32} {S9 : St} (hm : m_Te_collect S a1 = some (r9, S9)) : QMet G yX8_collect cX8_collect 4 (some .int) 6 130 [.ref (gad G 0), .int a1] S (some (.int r9)) S9 := by
  refine q_entry (by decide +kernel) rfl hi (by decide) ?_
  intro X C
  refine q_lv (lv' := [(0, .ref (gad G 0)), (1, .int a1)]) [0, 1] rfl ?_
  unfold m_Te_collect at hm
  refine q_aload_n (pc := 0) C dX8_collect_0 rfl 0 rfl ?_
  refine q_iload_n (pc := 1) C dX8_collect_1 rfl 1 rfl ?_
  obtain ⟨k1, h1, hm⟩ := o1_some hm
  refine q_callV (pc := 2) (k := 0) (As := [.int a1]) (rest := []) (T := TX8) C (c_Te_storeOf hi h1) (by decide) (ce_0 _ _ _) (ci := 6) rfl tw_716 tw_717 tw_718 tw_2 tw_719 (by decide +kernel) (by decide) (by decide) rfl dX8_collect_2 ?_
  by_cases c1 : k1 = 12
  · replace hm := hm_t c1 hm
    subst c1
    refine q_astore_n (pc := 5) (lv' := [(2, .ref (gad G 12)), (0, .ref (gad G 0)), (1, .int a1)]) C dX8_collect_5 rfl (by decide) rfl ?_
    refine q_aload_n (pc := 6) C dX8_collect_6 rfl 0 rfl ?_
    obtain ⟨S1, h2, hm⟩ := o1_some hm
    refine q_callU (pc := 7) (k := 12) (As := []) (rest := []) (T := TX0) (owner := "Tessera$Store") (x := ⟨"Tessera$Store", "openPause", "()V"⟩) C (c_St_openPause_12 hi h2) (by decide) (ce_12 _ _ _) (ci := 0) rfl (Or.inl rfl) tw_209 tw_210 tw_212 tw_211 tw_62 tw_213 (by decide +kernel) (by decide) (by decide) rfl dX8_collect_7 ?_
    refine q_aload_n (pc := 10) C dX8_collect_10 rfl 0 rfl ?_
    obtain ⟨r1, S2, h3, hm⟩ := ob_some hm
    refine q_callU (pc := 11) (k := 12) (As := []) (rest := []) (T := TX0) (owner := "Tessera$Store") (x := ⟨"Tessera$Store", "cleanUp", "()I"⟩) C (c_St_cleanUp_Cop_12 hi h3) (by decide) (ce_12 _ _ _) (ci := 0) rfl (Or.inl rfl) tw_874 tw_875 tw_877 tw_876 tw_62 tw_878 (by decide +kernel) (by decide) (by decide) rfl dX8_collect_11 ?_
    refine q_istore_n (pc := 14) (lv' := [(3, .int r1), (2, .ref (gad G 12)), (0, .ref (gad G 0)), (1, .int a1)]) C dX8_collect_14 rfl (by decide) rfl ?_
    refine q_aload_n (pc := 15) C dX8_collect_15 rfl 1 rfl ?_
    obtain ⟨S3, h4, hm⟩ := o1_some hm
    refine q_callU (pc := 16) (k := 12) (As := []) (rest := []) (T := TX0) (owner := "Tessera$Store") (x := ⟨"Tessera$Store", "closePause", "()V"⟩) C (c_St_closePause_12 hi h4) (by decide) (ce_12 _ _ _) (ci := 0) rfl (Or.inl rfl) tw_637 tw_638 tw_640 tw_639 tw_62 tw_641 (by decide +kernel) (by decide) (by decide) rfl dX8_collect_16 ?_
    refine q_iload_n (pc := 19) C dX8_collect_19 rfl 0 rfl ?_
    cases hm
    exact q_iret (pc := 20) C dX8_collect_20
  replace hm := hm_f c1 hm
  by_cases c2 : k1 = 18
  · replace hm := hm_t c2 hm
    subst c2
    refine q_astore_n (pc := 5) (lv' := [(2, .ref (gad G 18)), (0, .ref (gad G 0)), (1, .int a1)]) C dX8_collect_5 rfl (by decide) rfl ?_
    refine q_aload_n (pc := 6) C dX8_collect_6 rfl 0 rfl ?_
    obtain ⟨S4, h5, hm⟩ := o1_some hm
    refine q_callU (pc := 7) (k := 18) (As := []) (rest := []) (T := TX4) (owner := "Tessera$Store") (x := ⟨"Tessera$Store", "openPause", "()V"⟩) C (c_St_openPause_18 hi h5) (by decide) (ce_18 _ _ _) (ci := 4) rfl (Or.inl rfl) tw_209 tw_210 tw_212 tw_216 tw_62 tw_213 (by decide +kernel) (by decide) (by decide) rfl dX8_collect_7 ?_
    refine q_aload_n (pc := 10) C dX8_collect_10 rfl 0 rfl ?_
    obtain ⟨r2, S5, h6, hm⟩ := ob_some hm
    refine q_callU (pc := 11) (k := 18) (As := []) (rest := []) (T := TX4) (owner := "Tessera$Store") (x := ⟨"Tessera$Store", "cleanUp", "()I"⟩) C (c_St_cleanUp_Nur_18 hi h6) (by decide) (ce_18 _ _ _) (ci := 4) rfl (Or.inl rfl) tw_874 tw_875 tw_877 tw_887 tw_62 tw_878 (by decide +kernel) (by decide) (by decide) rfl dX8_collect_11 ?_
    refine q_istore_n (pc := 14) (lv' := [(3, .int r2), (2, .ref (gad G 18)), (0, .ref (gad G 0)), (1, .int a1)]) C dX8_collect_14 rfl (by decide) rfl ?_
    refine q_aload_n (pc := 15) C dX8_collect_15 rfl 1 rfl ?_
    obtain ⟨S6, h7, hm⟩ := o1_some hm
    refine q_callU (pc := 16) (k := 18) (As := []) (rest := []) (T := TX4) (owner := "Tessera$Store") (x := ⟨"Tessera$Store", "closePause", "()V"⟩) C (c_St_closePause_18 hi h7) (by decide) (ce_18 _ _ _) (ci := 4) rfl (Or.inl rfl) tw_637 tw_638 tw_640 tw_648 tw_62 tw_641 (by decide +kernel) (by decide) (by decide) rfl dX8_collect_16 ?_
    refine q_iload_n (pc := 19) C dX8_collect_19 rfl 0 rfl ?_
    cases hm
    exact q_iret (pc := 20) C dX8_collect_20
  replace hm := hm_f c2 hm
  by_cases c3 : k1 = 31
  · replace hm := hm_t c3 hm
    subst c3
    refine q_astore_n (pc := 5) (lv' := [(2, .ref (gad G 31)), (0, .ref (gad G 0)), (1, .int a1)]) C dX8_collect_5 rfl (by decide) rfl ?_
    refine q_aload_n (pc := 6) C dX8_collect_6 rfl 0 rfl ?_
    obtain ⟨S7, h8, hm⟩ := o1_some hm
    refine q_callU (pc := 7) (k := 31) (As := []) (rest := []) (T := TX3) (owner := "Tessera$Store") (x := ⟨"Tessera$Store", "openPause", "()V"⟩) C (c_St_openPause_31 hi h8) (by decide) (ce_31 _ _ _) (ci := 3) rfl (Or.inl rfl) tw_209 tw_210 tw_212 tw_215 tw_62 tw_213 (by decide +kernel) (by decide) (by decide) rfl dX8_collect_7 ?_
    refine q_aload_n (pc := 10) C dX8_collect_10 rfl 0 rfl ?_
    obtain ⟨r3, S8, h9, hm⟩ := ob_some hm
    refine q_callU (pc := 11) (k := 31) (As := []) (rest := []) (T := TX3) (owner := "Tessera$Store") (x := ⟨"Tessera$Store", "cleanUp", "()I"⟩) C (c_St_cleanUp_Mar_31 hi h9) (by decide) (ce_31 _ _ _) (ci := 3) rfl (Or.inl rfl) tw_874 tw_875 tw_877 tw_886 tw_62 tw_878 (by decide +kernel) (by decide) (by decide) rfl dX8_collect_11 ?_
    refine q_istore_n (pc := 14) (lv' := [(3, .int r3), (2, .ref (gad G 31)), (0, .ref (gad G 0)), (1, .int a1)]) C dX8_collect_14 rfl (by decide) rfl ?_
    refine q_aload_n (pc := 15) C dX8_collect_15 rfl 1 rfl ?_
    obtain ⟨S9, h10, hm⟩ := o1_some hm
    refine q_callU (pc := 16) (k := 31) (As := []) (rest := []) (T := TX3) (owner := "Tessera$Store") (x := ⟨"Tessera$Store", "closePause", "()V"⟩) C (c_St_closePause_31 hi h10) (by decide) (ce_31 _ _ _) (ci := 3) rfl (Or.inl rfl) tw_637 tw_638 tw_640 tw_647 tw_62 tw_641 (by decide +kernel) (by decide) (by decide) rfl dX8_collect_16 ?_
    refine q_iload_n (pc := 19) C dX8_collect_19 rfl 0 rfl ?_
    cases hm
    exact q_iret (pc := 20) C dX8_collect_20
  replace hm := hm_f c3 hm
  by_cases c4 : k1 = 42
  · replace hm := hm_t c4 hm
    subst c4
    refine q_astore_n (pc := 5) (lv' := [(2, .ref (gad G 42)), (0, .ref (gad G 0)), (1, .int a1)]) C dX8_collect_5 rfl (by decide) rfl ?_
    refine q_aload_n (pc := 6) C dX8_collect_6 rfl 0 rfl ?_
    obtain ⟨S10, h11, hm⟩ := o1_some hm
    refine q_callU (pc := 7) (k := 42) (As := []) (rest := []) (T := TX1) (owner := "Tessera$Store") (x := ⟨"Tessera$Store", "openPause", "()V"⟩) C (c_St_openPause_42 hi h11) (by decide) (ce_42 _ _ _) (ci := 1) rfl (Or.inl rfl) tw_209 tw_210 tw_212 tw_214 tw_62 tw_213 (by decide +kernel) (by decide) (by decide) rfl dX8_collect_7 ?_
    refine q_aload_n (pc := 10) C dX8_collect_10 rfl 0 rfl ?_
    obtain ⟨r4, S11, h12, hm⟩ := ob_some hm
    refine q_callU (pc := 11) (k := 42) (As := []) (rest := []) (T := TX1) (owner := "Tessera$Store") (x := ⟨"Tessera$Store", "cleanUp", "()I"⟩) C (c_St_cleanUp_Cou_42 hi h12) (by decide) (ce_42 _ _ _) (ci := 1) rfl (Or.inl rfl) tw_874 tw_875 tw_877 tw_885 tw_62 tw_878 (by decide +kernel) (by decide) (by decide) rfl dX8_collect_11 ?_
    refine q_istore_n (pc := 14) (lv' := [(3, .int r4), (2, .ref (gad G 42)), (0, .ref (gad G 0)), (1, .int a1)]) C dX8_collect_14 rfl (by decide) rfl ?_
    refine q_aload_n (pc := 15) C dX8_collect_15 rfl 1 rfl ?_
    obtain ⟨S12, h13, hm⟩ := o1_some hm
    refine q_callU (pc := 16) (k := 42) (As := []) (rest := []) (T := TX1) (owner := "Tessera$Store") (x := ⟨"Tessera$Store", "closePause", "()V"⟩) C (c_St_closePause_42 hi h13) (by decide) (ce_42 _ _ _) (ci := 1) rfl (Or.inl rfl) tw_637 tw_638 tw_640 tw_646 tw_62 tw_641 (by decide +kernel) (by decide) (by decide) rfl dX8_collect_16 ?_
    refine q_iload_n (pc := 19) C dX8_collect_19 rfl 0 rfl ?_
    cases hm
    exact q_iret (pc := 20) C dX8_collect_20
  replace hm := hm_f c4 hm
  cases hm
