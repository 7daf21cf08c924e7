set_option maxRecDepth 100000 in
theorem c_Te_set {G : Gx} (hi : qinj (gad G)) {S : St} {a1 : Int32} {a2 : Int32} {a3 : Int32} {r9 : Int32} {S9 : St} (hm : m_Te_set S a1 a2 a3 = some (r9, S9)) : QMet G yX8_set cX8_set 5 (some .int) 5 113 [.ref (gad G 0), .int a1, .int a2, .int a3] S (some (.int r9)) S9 := by
  refine q_entry (by decide +kernel) rfl hi (by decide) ?_
  intro X C
  refine q_lv (lv' := [(0, .ref (gad G 0)), (1, .int a1), (2, .int a2), (3, .int a3)]) [0, 1, 2, 3] rfl ?_
  unfold m_Te_set at hm
  refine q_aload_n (pc := 0) C dX8_set_0 rfl 0 rfl ?_
  refine q_get (pc := 1) (T := TX8) (v := .ref (gad G 1)) C (by decide) (ce_0 _ _ _) (ci := 6) rfl inlX8 (j := 0) (by decide) rfl tw_27 (Or.inl rfl) dX8_set_1 ?_
  refine q_iload_n (pc := 4) C dX8_set_4 rfl 1 rfl ?_
  obtain ⟨r1, h1, hm⟩ := o1_some hm
  refine q_callV (pc := 5) (k := 1) (As := [.int a1]) (rest := []) (T := TX2) C (c_Gr_isReached hi h1) (by decide) (ce_1 _ _ _) (ci := 2) rfl tw_657 tw_526 tw_527 tw_13 tw_528 (by decide +kernel) (by decide) (by decide) rfl dX8_set_5 ?_
  refine q_if_eq (pc := 8) (tgt := 23) C dX8_set_8 (by decide) (fun c1 => ?_) (fun c1 => ?_)
  · replace hm := hm_t c1 hm
    cases hm
  · replace hm := hm_f c1 hm
    refine q_aload_n (pc := 11) C dX8_set_11 rfl 0 rfl ?_
    refine q_get (pc := 12) (T := TX8) (v := .ref (gad G 1)) C (by decide) (ce_0 _ _ _) (ci := 6) rfl inlX8 (j := 0) (by decide) rfl tw_27 (Or.inl rfl) dX8_set_12 ?_
    refine q_iload_n (pc := 15) C dX8_set_15 rfl 1 rfl ?_
    refine q_iload_n (pc := 16) C dX8_set_16 rfl 2 rfl ?_
    obtain ⟨r2, h2, hm⟩ := o1_some hm
    refine q_callV (pc := 17) (k := 1) (As := [.int a1, .int a2]) (rest := []) (T := TX2) C (c_Gr_hasField hi h2) (by decide) (ce_1 _ _ _) (ci := 2) rfl tw_679 tw_680 tw_681 tw_13 tw_682 (by decide +kernel) (by decide) (by decide) rfl dX8_set_17 ?_
    refine q_if_ne (pc := 20) (tgt := 33) C dX8_set_20 (by decide) (fun c2 => ?_) (fun c2 => ?_)
    · replace hm := hm_f c2 hm
      refine q_aload_n (pc := 33) C dX8_set_33 rfl 0 rfl ?_
      refine q_iload_n (pc := 34) C dX8_set_34 rfl 3 rfl ?_
      obtain ⟨u1, h3, hm⟩ := o1_some hm
      refine q_callV (pc := 35) (k := 0) (As := [.int a3]) (rest := []) (T := TX8) C (c_Te_checkNameable hi h3) (by decide) (ce_0 _ _ _) (ci := 6) rfl tw_653 tw_654 tw_655 tw_2 tw_656 (by decide +kernel) (by decide) (by decide) rfl dX8_set_35 ?_
      refine q_aload_n (pc := 38) C dX8_set_38 rfl 0 rfl ?_
      obtain ⟨S1, h4, hm⟩ := o1_some hm
      refine q_callV (pc := 39) (k := 0) (As := []) (rest := []) (T := TX8) C (c_Te_openPauses hi h4) (by decide) (ce_0 _ _ _) (ci := 6) rfl tw_205 tw_206 tw_207 tw_2 tw_208 (by decide +kernel) (by decide) (by decide) rfl dX8_set_39 ?_
      refine q_aload_n (pc := 42) C dX8_set_42 rfl 0 rfl ?_
      refine q_get (pc := 43) (T := TX8) (v := .ref (gad G 1)) C (by decide) (ce_0 _ _ _) (ci := 6) rfl inlX8 (j := 0) (by decide) rfl tw_27 (Or.inl rfl) dX8_set_43 ?_
      refine q_iload_n (pc := 46) C dX8_set_46 rfl 1 rfl ?_
      refine q_iload_n (pc := 47) C dX8_set_47 rfl 2 rfl ?_
      obtain ⟨r3, h5, hm⟩ := o1_some hm
      refine q_callV (pc := 48) (k := 1) (As := [.int a1, .int a2]) (rest := []) (T := TX2) C (c_Gr_nameOf hi h5) (by decide) (ce_1 _ _ _) (ci := 2) rfl tw_683 tw_283 tw_284 tw_13 tw_285 (by decide +kernel) (by decide) (by decide) rfl dX8_set_48 ?_
      refine q_istore (pc := 51) (lv' := [(4, .int r3), (0, .ref (gad G 0)), (1, .int a1), (2, .int a2), (3, .int a3)]) C dX8_set_51 (by decide) rfl ?_
      refine q_iload (pc := 53) C dX8_set_53 0 rfl ?_
      refine q_iload_n (pc := 55) C dX8_set_55 rfl 4 rfl ?_
      refine q_icmp_eq (pc := 56) (tgt := 77) C dX8_set_56 (by decide) (fun c3 => ?_) (fun c3 => ?_)
      · replace hm := hm_t c3 hm
        refine q_aload_n (pc := 77) C dX8_set_77 rfl 1 rfl ?_
        obtain ⟨S2, h6, hm⟩ := o1_some hm
        refine q_callV (pc := 78) (k := 0) (As := []) (rest := []) (T := TX8) C (c_Te_closePauses hi h6) (by decide) (ce_0 _ _ _) (ci := 6) rfl tw_633 tw_634 tw_635 tw_2 tw_636 (by decide +kernel) (by decide) (by decide) rfl dX8_set_78 ?_
        refine q_iload (pc := 81) C dX8_set_81 0 rfl ?_
        cases hm
        exact q_iret (pc := 83) C dX8_set_83
      · replace hm := hm_f c3 hm
        refine q_aload_n (pc := 59) C dX8_set_59 rfl 1 rfl ?_
        refine q_get (pc := 60) (T := TX8) (v := .ref (gad G 1)) C (by decide) (ce_0 _ _ _) (ci := 6) rfl inlX8 (j := 0) (by decide) rfl tw_27 (Or.inl rfl) dX8_set_60 ?_
        refine q_iload_n (pc := 63) C dX8_set_63 rfl 2 rfl ?_
        refine q_iload_n (pc := 64) C dX8_set_64 rfl 3 rfl ?_
        refine q_iload_n (pc := 65) C dX8_set_65 rfl 4 rfl ?_
        obtain ⟨S3, h7, hm⟩ := o1_some hm
        refine q_callV (pc := 66) (k := 1) (As := [.int a1, .int a2, .int a3]) (rest := []) (T := TX2) C (c_Gr_nameByField hi h7) (by decide) (ce_1 _ _ _) (ci := 2) rfl tw_684 tw_685 tw_686 tw_13 tw_687 (by decide +kernel) (by decide) (by decide) rfl dX8_set_66 ?_
        refine q_aload_n (pc := 69) C dX8_set_69 rfl 1 rfl ?_
        refine q_iload_n (pc := 70) C dX8_set_70 rfl 2 rfl ?_
        refine q_iload (pc := 71) C dX8_set_71 0 rfl ?_
        refine q_iload_n (pc := 73) C dX8_set_73 rfl 4 rfl ?_
        obtain ⟨S4, h8, hm⟩ := o1_some hm
        refine q_callV (pc := 74) (k := 0) (As := [.int a1, .int r3, .int a3]) (rest := []) (T := TX8) C (c_Te_tellStores hi h8) (by decide) (ce_0 _ _ _) (ci := 6) rfl tw_608 tw_609 tw_610 tw_2 tw_611 (by decide +kernel) (by decide) (by decide) rfl dX8_set_74 ?_
        refine q_aload_n (pc := 77) C dX8_set_77 rfl 1 rfl ?_
        obtain ⟨S5, h9, hm⟩ := o1_some hm
        refine q_callV (pc := 78) (k := 0) (As := []) (rest := []) (T := TX8) C (c_Te_closePauses hi h9) (by decide) (ce_0 _ _ _) (ci := 6) rfl tw_633 tw_634 tw_635 tw_2 tw_636 (by decide +kernel) (by decide) (by decide) rfl dX8_set_78 ?_
        refine q_iload (pc := 81) C dX8_set_81 0 rfl ?_
        cases hm
        exact q_iret (pc := 83) C dX8_set_83
    · replace hm := hm_t c2 hm
      cases hm
set_option maxRecDepth 100000 in
theorem c_Te_named {G : Gx} (hi : qinj (gad G)) {S : St} {a1 : Int32} {a2 : Int32} {r9 : Int32} (hm : m_Te_named S a1 a2 = some r9) : QMet G yX8_named cX8_named 3 (some .int) 1 22 [.ref (gad G 0), .int a1, .int a2] S (some (.int r9)) S := by
  refine q_entry (by decide +kernel) rfl hi (by decide) ?_
  intro X C
  refine q_lv (lv' := [(0, .ref (gad G 0)), (1, .int a1), (2, .int a2)]) [0, 1, 2] rfl ?_
  unfold m_Te_named at hm
  refine q_aload_n (pc := 0) C dX8_named_0 rfl 0 rfl ?_
  refine q_get (pc := 1) (T := TX8) (v := .ref (gad G 1)) C (by decide) (ce_0 _ _ _) (ci := 6) rfl inlX8 (j := 0) (by decide) rfl tw_27 (Or.inl rfl) dX8_named_1 ?_
  refine q_iload_n (pc := 4) C dX8_named_4 rfl 1 rfl ?_
  refine q_iload_n (pc := 5) C dX8_named_5 rfl 2 rfl ?_
  obtain ⟨r1, h1, hm⟩ := o1_some hm
  refine q_callV (pc := 6) (k := 1) (As := [.int a1, .int a2]) (rest := []) (T := TX2) C (c_Gr_hasField hi h1) (by decide) (ce_1 _ _ _) (ci := 2) rfl tw_679 tw_680 tw_681 tw_13 tw_682 (by decide +kernel) (by decide) (by decide) rfl dX8_named_6 ?_
  refine q_if_ne (pc := 9) (tgt := 22) C dX8_named_9 (by decide) (fun c1 => ?_) (fun c1 => ?_)
  · replace hm := hm_f c1 hm
    refine q_aload_n (pc := 22) C dX8_named_22 rfl 0 rfl ?_
    refine q_get (pc := 23) (T := TX8) (v := .ref (gad G 1)) C (by decide) (ce_0 _ _ _) (ci := 6) rfl inlX8 (j := 0) (by decide) rfl tw_27 (Or.inl rfl) dX8_named_23 ?_
    refine q_iload_n (pc := 26) C dX8_named_26 rfl 1 rfl ?_
    refine q_iload_n (pc := 27) C dX8_named_27 rfl 2 rfl ?_
    obtain ⟨r2, h2, hm⟩ := o1_some hm
    refine q_callV (pc := 28) (k := 1) (As := [.int a1, .int a2]) (rest := []) (T := TX2) C (c_Gr_nameOf hi h2) (by decide) (ce_1 _ _ _) (ci := 2) rfl tw_683 tw_283 tw_284 tw_13 tw_285 (by decide +kernel) (by decide) (by decide) rfl dX8_named_28 ?_
    cases hm
    exact q_iret (pc := 31) C dX8_named_31
  · replace hm := hm_t c1 hm
    cases hm
set_option maxRecDepth 100000 in
theorem w_Mar_goOn_L22 {G : Gx} (hi : qinj (gad G)) {X : Cx} (C : QC G X cX3_goOn 3 RX3 4 86 (some .int)) {Q : State → Prop} : ∀ (n : Nat) (S : St) (v1 : Int32) (v2 : Int32) (S9 : St), m_Mar_goOn_L22 n S v1 v2 = some S9 → QW G X 3 Q 44 [(0, .ref (gad G 31))] [] S9 → QW G X 3 Q 22 [(0, .ref (gad G 31)), (1, .int v1), (2, .int v2)] [] S := by
  intro n
  induction n with
  | zero =>
    intro S v1 v2 S9 hm kk
    rw [m_Mar_goOn_L22] at hm
    cases hm
  | succ n ih =>
    intro S v1 v2 S9 hm kk
    rw [m_Mar_goOn_L22] at hm
    refine q_aload_n (pc := 22) C dX3_goOn_22 rfl 0 rfl ?_
    refine q_get (pc := 23) (T := TX3) (v := .int (S 31 10)) C (by decide) (ce_31 _ _ _) (ci := 3) rfl inlX3 (j := 10) (by decide) rfl tw_159 (Or.inl rfl) dX3_goOn_23 ?_
    refine q_if_eq (pc := 26) (tgt := 44) C dX3_goOn_26 (by decide) (fun c1 => ?_) (fun c1 => ?_)
    · replace hm := hm_t c1 hm
      cases hm
      refine q_lv (lv' := [(0, .ref (gad G 31))]) [0] rfl ?_
      exact kk
    · replace hm := hm_f c1 hm
      refine q_iload_n (pc := 29) C dX3_goOn_29 rfl 2 rfl ?_
      refine q_iload_n (pc := 30) C dX3_goOn_30 rfl 1 rfl ?_
      refine q_icmp_ge (pc := 31) (tgt := 44) C dX3_goOn_31 (by decide) (fun c2 => ?_) (fun c2 => ?_)
      · replace hm := hm_t c2 hm
        cases hm
        refine q_lv (lv' := [(0, .ref (gad G 31))]) [0] rfl ?_
        exact kk
      · replace hm := hm_f c2 hm
        refine q_aload_n (pc := 34) C dX3_goOn_34 rfl 0 rfl ?_
        obtain ⟨S1, h1, hm⟩ := o1_some hm
        refine q_callV (pc := 35) (k := 31) (As := []) (rest := []) (T := TX3) C (c_Mar_step hi h1) (by decide) (ce_31 _ _ _) (ci := 3) rfl tw_444 tw_445 tw_446 tw_19 tw_447 (by decide +kernel) (by decide) (by decide) rfl dX3_goOn_35 ?_
        refine q_iinc (pc := 38) (k := 2) (v := (v2 + (1 : Int32))) (lv' := [(2, .int (v2 + (1 : Int32))), (0, .ref (gad G 31)), (1, .int v1)]) C dX3_goOn_38 rfl rfl (by decide) rfl ?_
        refine q_goto (pc := 41) (tgt := 22) C dX3_goOn_41 (by decide) ?_
        refine q_lv (lv' := [(0, .ref (gad G 31)), (1, .int v1), (2, .int (v2 + (1 : Int32)))]) [1, 2, 0] rfl ?_
        exact ih _ _ _ _ hm kk
set_option maxRecDepth 100000 in
theorem c_Mar_goOn {G : Gx} (hi : qinj (gad G)) {S : St} {a1 : Int32} {r9 : Int32} {S9 : St} (hm : m_Mar_goOn S a1 = some (r9, S9)) : QMet G yX3_goOn cX3_goOn 3 (some .int) 4 86 [.ref (gad G 31), .int a1] S (some (.int r9)) S9 := by
  refine q_entry (by decide +kernel) rfl hi (by decide) ?_
  intro X C
  refine q_lv (lv' := [(0, .ref (gad G 31)), (1, .int a1)]) [0, 1] rfl ?_
  unfold m_Mar_goOn at hm
  refine q_aload_n (pc := 0) C dX3_goOn_0 rfl 0 rfl ?_
  refine q_get (pc := 1) (T := TX3) (v := .int (S 31 6)) C (by decide) (ce_31 _ _ _) (ci := 3) rfl inlX3 (j := 6) (by decide) rfl tw_704 (Or.inr tw_705) dX3_goOn_1 ?_
  refine q_if_eq (pc := 4) (tgt := 9) C dX3_goOn_4 (by decide) (fun c1 => ?_) (fun c1 => ?_)
  · replace hm := hm_t c1 hm
    refine q_aload_n (pc := 9) C dX3_goOn_9 rfl 0 rfl ?_
    refine q_get (pc := 10) (T := TX3) (v := .int (S 31 10)) C (by decide) (ce_31 _ _ _) (ci := 3) rfl inlX3 (j := 10) (by decide) rfl tw_159 (Or.inl rfl) dX3_goOn_10 ?_
    refine q_if_ne (pc := 13) (tgt := 20) C dX3_goOn_13 (by decide) (fun c2 => ?_) (fun c2 => ?_)
    · replace hm := hm_f c2 hm
      refine q_iconst (pc := 20) (v := (0 : Int32)) C dX3_goOn_20 (by decide) ?_
      refine q_istore_n (pc := 21) (lv' := [(2, .int (0 : Int32)), (0, .ref (gad G 31)), (1, .int a1)]) C dX3_goOn_21 rfl (by decide) rfl ?_
      refine q_lv (lv' := [(0, .ref (gad G 31)), (1, .int a1), (2, .int (0 : Int32))]) [1, 2, 0] rfl ?_
      obtain ⟨S1, h1, hm⟩ := o1_some hm
      refine w_Mar_goOn_L22 hi C 200 _ _ _ _ h1 ?_
      refine q_aload_n (pc := 44) C dX3_goOn_44 rfl 0 rfl ?_
      refine q_get (pc := 45) (T := TX3) (v := .int (S1 31 10)) C (by decide) (ce_31 _ _ _) (ci := 3) rfl inlX3 (j := 10) (by decide) rfl tw_159 (Or.inl rfl) dX3_goOn_45 ?_
      refine q_if_eq (pc := 48) (tgt := 66) C dX3_goOn_48 (by decide) (fun c3 => ?_) (fun c3 => ?_)
      · replace hm := hm_t c3 hm
        refine q_iconst (pc := 66) (v := (-1 : Int32)) C dX3_goOn_66 (by decide) ?_
        cases hm
        exact q_iret (pc := 67) C dX3_goOn_67
      · replace hm := hm_f c3 hm
        refine q_aload_n (pc := 51) C dX3_goOn_51 rfl 0 rfl ?_
        refine q_get (pc := 52) (T := TX3) (v := .ref (gad G 36)) C (by decide) (ce_31 _ _ _) (ci := 3) rfl inlX3 (j := 12) (by decide) rfl tw_74 (Or.inl rfl) dX3_goOn_52 ?_
        refine q_get (pc := 55) (T := TX5) (v := .int (S1 36 2)) C (by decide) (ce_36 _ _ _) (ci := 5) rfl inlX5 (j := 2) (by decide) rfl tw_448 (Or.inl rfl) dX3_goOn_55 ?_
        refine q_aload_n (pc := 58) C dX3_goOn_58 rfl 0 rfl ?_
        refine q_get (pc := 59) (T := TX3) (v := .int (S1 31 14)) C (by decide) (ce_31 _ _ _) (ci := 3) rfl inlX3 (j := 14) (by decide) rfl tw_160 (Or.inl rfl) dX3_goOn_59 ?_
        refine q_isub (pc := 62) C dX3_goOn_62 ?_
        refine q_goto (pc := 63) (tgt := 67) C dX3_goOn_63 (by decide) ?_
        cases hm
        exact q_iret (pc := 67) C dX3_goOn_67
    · replace hm := hm_t c2 hm
      refine q_aload_n (pc := 16) C dX3_goOn_16 rfl 0 rfl ?_
      obtain ⟨S2, h2, hm⟩ := o1_some hm
      refine q_callV (pc := 17) (k := 31) (As := []) (rest := []) (T := TX3) C (c_Mar_beginToMark hi h2) (by decide) (ce_31 _ _ _) (ci := 3) rfl tw_417 tw_418 tw_419 tw_19 tw_420 (by decide +kernel) (by decide) (by decide) rfl dX3_goOn_17 ?_
      refine q_iconst (pc := 20) (v := (0 : Int32)) C dX3_goOn_20 (by decide) ?_
      refine q_istore_n (pc := 21) (lv' := [(2, .int (0 : Int32)), (0, .ref (gad G 31)), (1, .int a1)]) C dX3_goOn_21 rfl (by decide) rfl ?_
      refine q_lv (lv' := [(0, .ref (gad G 31)), (1, .int a1), (2, .int (0 : Int32))]) [1, 2, 0] rfl ?_
      obtain ⟨S3, h3, hm⟩ := o1_some hm
      refine w_Mar_goOn_L22 hi C 200 _ _ _ _ h3 ?_
      refine q_aload_n (pc := 44) C dX3_goOn_44 rfl 0 rfl ?_
      refine q_get (pc := 45) (T := TX3) (v := .int (S3 31 10)) C (by decide) (ce_31 _ _ _) (ci := 3) rfl inlX3 (j := 10) (by decide) rfl tw_159 (Or.inl rfl) dX3_goOn_45 ?_
      refine q_if_eq (pc := 48) (tgt := 66) C dX3_goOn_48 (by decide) (fun c4 => ?_) (fun c4 => ?_)
      · replace hm := hm_t c4 hm
        refine q_iconst (pc := 66) (v := (-1 : Int32)) C dX3_goOn_66 (by decide) ?_
        cases hm
        exact q_iret (pc := 67) C dX3_goOn_67
      · replace hm := hm_f c4 hm
        refine q_aload_n (pc := 51) C dX3_goOn_51 rfl 0 rfl ?_
        refine q_get (pc := 52) (T := TX3) (v := .ref (gad G 36)) C (by decide) (ce_31 _ _ _) (ci := 3) rfl inlX3 (j := 12) (by decide) rfl tw_74 (Or.inl rfl) dX3_goOn_52 ?_
        refine q_get (pc := 55) (T := TX5) (v := .int (S3 36 2)) C (by decide) (ce_36 _ _ _) (ci := 5) rfl inlX5 (j := 2) (by decide) rfl tw_448 (Or.inl rfl) dX3_goOn_55 ?_
        refine q_aload_n (pc := 58) C dX3_goOn_58 rfl 0 rfl ?_
        refine q_get (pc := 59) (T := TX3) (v := .int (S3 31 14)) C (by decide) (ce_31 _ _ _) (ci := 3) rfl inlX3 (j := 14) (by decide) rfl tw_160 (Or.inl rfl) dX3_goOn_59 ?_
        refine q_isub (pc := 62) C dX3_goOn_62 ?_
        refine q_goto (pc := 63) (tgt := 67) C dX3_goOn_63 (by decide) ?_
        cases hm
        exact q_iret (pc := 67) C dX3_goOn_67
  · replace hm := hm_f c1 hm
    refine q_iconst (pc := 7) (v := (-1 : Int32)) C dX3_goOn_7 (by decide) ?_
    cases hm
    exact q_iret (pc := 8) C dX3_goOn_8
set_option maxRecDepth 100000 in
theorem c_Te_steps {G : Gx} (hi : qinj (gad G)) {S : St} {a1 : Int32} {r9 : Int32} {S9 : St} (hm : m_Te_steps S a1 = some (r9, S9)) : QMet G yX8_steps cX8_steps 3 (some .int) 5 108 [.ref (gad G 0), .int a1] S (some (.int r9)) S9 := by
  refine q_entry (by decide +kernel) rfl hi (by decide) ?_
  intro X C
  refine q_lv (lv' := [(0, .ref (gad G 0)), (1, .int a1)]) [0, 1] rfl ?_
  unfold m_Te_steps at hm
  refine q_iload_n (pc := 0) C dX8_steps_0 rfl 1 rfl ?_
  refine q_iconst (pc := 1) (v := (1 : Int32)) C dX8_steps_1 (by decide) ?_
  refine q_icmp_lt (pc := 2) (tgt := 11) C dX8_steps_2 (by decide) (fun c1 => ?_) (fun c1 => ?_)
  · replace hm := hm_t c1 hm
    cases hm
  · replace hm := hm_f c1 hm
    refine q_iload_n (pc := 5) C dX8_steps_5 rfl 1 rfl ?_
    refine q_bipush (pc := 6) (v := (20 : Int32)) C dX8_steps_6 (by decide) ?_
    refine q_icmp_le (pc := 8) (tgt := 21) C dX8_steps_8 (by decide) (fun c2 => ?_) (fun c2 => ?_)
    · replace hm := hm_t c2 hm
      refine q_aload_n (pc := 21) C dX8_steps_21 rfl 0 rfl ?_
      refine q_get (pc := 22) (T := TX8) (v := .ref (gad G 31)) C (by decide) (ce_0 _ _ _) (ci := 6) rfl inlX8 (j := 2) (by decide) rfl tw_29 (Or.inl rfl) dX8_steps_22 ?_
      obtain ⟨S1, h1, hm⟩ := o1_some hm
      refine q_callU (pc := 25) (k := 31) (As := []) (rest := []) (T := TX3) (owner := "Tessera$Store") (x := ⟨"Tessera$Marking", "openPause", "()V"⟩) C (c_St_openPause_31 hi h1) (by decide) (ce_31 _ _ _) (ci := 3) rfl (Or.inl rfl) tw_697 tw_698 tw_212 tw_699 tw_62 tw_213 (by decide +kernel) (by decide) (by decide) rfl dX8_steps_25 ?_
      refine q_aload_n (pc := 28) C dX8_steps_28 rfl 0 rfl ?_
      refine q_get (pc := 29) (T := TX8) (v := .ref (gad G 31)) C (by decide) (ce_0 _ _ _) (ci := 6) rfl inlX8 (j := 2) (by decide) rfl tw_29 (Or.inl rfl) dX8_steps_29 ?_
      refine q_iload_n (pc := 32) C dX8_steps_32 rfl 1 rfl ?_
      obtain ⟨r1, S2, h2, hm⟩ := ob_some hm
      refine q_callV (pc := 33) (k := 31) (As := [.int a1]) (rest := []) (T := TX3) C (c_Mar_goOn hi h2) (by decide) (ce_31 _ _ _) (ci := 3) rfl tw_700 tw_701 tw_702 tw_19 tw_703 (by decide +kernel) (by decide) (by decide) rfl dX8_steps_33 ?_
      refine q_istore_n (pc := 36) (lv' := [(2, .int r1), (0, .ref (gad G 0)), (1, .int a1)]) C dX8_steps_36 rfl (by decide) rfl ?_
      refine q_aload_n (pc := 37) C dX8_steps_37 rfl 1 rfl ?_
      refine q_get (pc := 38) (T := TX8) (v := .ref (gad G 31)) C (by decide) (ce_0 _ _ _) (ci := 6) rfl inlX8 (j := 2) (by decide) rfl tw_29 (Or.inl rfl) dX8_steps_38 ?_
      obtain ⟨S3, h3, hm⟩ := o1_some hm
      refine q_callU (pc := 41) (k := 31) (As := []) (rest := []) (T := TX3) (owner := "Tessera$Store") (x := ⟨"Tessera$Marking", "closePause", "()V"⟩) C (c_St_closePause_31 hi h3) (by decide) (ce_31 _ _ _) (ci := 3) rfl (Or.inl rfl) tw_706 tw_707 tw_640 tw_708 tw_62 tw_641 (by decide +kernel) (by decide) (by decide) rfl dX8_steps_41 ?_
      refine q_iload_n (pc := 44) C dX8_steps_44 rfl 0 rfl ?_
      cases hm
      exact q_iret (pc := 45) C dX8_steps_45
    · replace hm := hm_f c2 hm
      cases hm
set_option maxRecDepth 100000 in
theorem c_Te_storeOf {G : Gx} (hi : qinj (gad G)) {S : St} {a1 : Int32} {r9 : Nat} (hm : m_Te_storeOf S a1 = some r9) : QMet G yX8_storeOf cX8_storeOf 2 (some (.object "Tessera$Store")) 0 0 [.ref (gad G 0), .int a1] S (some (.ref (gad G r9))) S := by
  refine q_entry (by decide +kernel) rfl hi (by decide) ?_
  intro X C
  refine q_lv (lv' := [(0, .ref (gad G 0)), (1, .int a1)]) [0, 1] rfl ?_
  unfold m_Te_storeOf at hm
  refine q_iload_n (pc := 0) C dX8_storeOf_0 rfl 1 rfl ?_
  refine q_if_lt (pc := 1) (tgt := 9) C dX8_storeOf_1 (by decide) (fun c1 => ?_) (fun c1 => ?_)
  · replace hm := hm_t c1 hm
    cases hm
  · replace hm := hm_f c1 hm
    refine q_iload_n (pc := 4) C dX8_storeOf_4 rfl 1 rfl ?_
    refine q_iconst (pc := 5) (v := (4 : Int32)) C dX8_storeOf_5 (by decide) ?_
    refine q_icmp_lt (pc := 6) (tgt := 20) C dX8_storeOf_6 (by decide) (fun c2 => ?_) (fun c2 => ?_)
    · replace hm := hm_t c2 hm
      refine q_aload_n (pc := 20) C dX8_storeOf_20 rfl 0 rfl ?_
      refine q_get (pc := 21) (T := TX8) (v := .ref (gad G 58)) C (by decide) (ce_0 _ _ _) (ci := 6) rfl inlX8 (j := 4) (by decide) rfl tw_31 (Or.inl rfl) dX8_storeOf_21 ?_
      refine q_iload_n (pc := 24) C dX8_storeOf_24 rfl 1 rfl ?_
      by_cases c3 : a1 = (0 : Int32)
      · replace hm := hm_t c3 hm
        refine q_aald (pc := 25) (k := 12) (n := 0) C (by rw [c3]; rfl) (by decide) rfl dX8_storeOf_25 ?_
        cases hm
        exact q_aret (pc := 26) C (Or.inl ⟨_, rfl⟩) dX8_storeOf_26
      replace hm := hm_f c3 hm
      by_cases c4 : a1 = (1 : Int32)
      · replace hm := hm_t c4 hm
        refine q_aald (pc := 25) (k := 18) (n := 1) C (by rw [c4]; rfl) (by decide) rfl dX8_storeOf_25 ?_
        cases hm
        exact q_aret (pc := 26) C (Or.inl ⟨_, rfl⟩) dX8_storeOf_26
      replace hm := hm_f c4 hm
      by_cases c5 : a1 = (2 : Int32)
      · replace hm := hm_t c5 hm
        refine q_aald (pc := 25) (k := 31) (n := 2) C (by rw [c5]; rfl) (by decide) rfl dX8_storeOf_25 ?_
        cases hm
        exact q_aret (pc := 26) C (Or.inl ⟨_, rfl⟩) dX8_storeOf_26
      replace hm := hm_f c5 hm
      by_cases c6 : a1 = (3 : Int32)
      · replace hm := hm_t c6 hm
        refine q_aald (pc := 25) (k := 42) (n := 3) C (by rw [c6]; rfl) (by decide) rfl dX8_storeOf_25 ?_
        cases hm
        exact q_aret (pc := 26) C (Or.inl ⟨_, rfl⟩) dX8_storeOf_26
      replace hm := hm_f c6 hm
      cases hm
    · replace hm := hm_f c2 hm
      cases hm
set_option maxRecDepth 100000 in
theorem w_St_wordsHad_12_L4 {G : Gx} (hi : qinj (gad G)) {X : Cx} (C : QC G X cX7_wordsHad 3 RX7 1 21 (some .int)) {Q : State → Prop} : ∀ (n : Nat) (S : St) (v1 : Int32) (v2 : Int32) (x1 : Int32), m_St_wordsHad_L4 12 0 n S v1 v2 = some x1 → QW G X 3 Q 44 [(1, .int x1)] [] S → QW G X 3 Q 4 [(0, .ref (gad G 12)), (1, .int v1), (2, .int v2)] [] S := by
  intro n
  induction n with
  | zero =>
    intro S v1 v2 x1 hm kk
    rw [m_St_wordsHad_L4] at hm
    cases hm
  | succ n ih =>
    intro S v1 v2 x1 hm kk
    rw [m_St_wordsHad_L4] at hm
    refine q_iload_n (pc := 4) C dX7_wordsHad_4 rfl 2 rfl ?_
    refine q_aload_n (pc := 5) C dX7_wordsHad_5 rfl 0 rfl ?_
    refine q_get (pc := 6) (T := TX0) (v := .ref (gad G 1)) C (by decide) (ce_12 _ _ _) (ci := 0) rfl inlX0 (j := 0) (by decide) rfl tw_67 (Or.inl rfl) dX7_wordsHad_6 ?_
    refine q_get (pc := 9) (T := TX2) (v := .int (S 1 6)) C (by decide) (ce_1 _ _ _) (ci := 2) rfl inlX2 (j := 6) (by decide) rfl tw_252 (Or.inl rfl) dX7_wordsHad_9 ?_
    refine q_icmp_ge (pc := 12) (tgt := 44) C dX7_wordsHad_12 (by decide) (fun c1 => ?_) (fun c1 => ?_)
    · replace hm := hm_t c1 hm
      cases hm
      refine q_lv (lv' := [(1, .int v1)]) [1] rfl ?_
      exact kk
    · replace hm := hm_f c1 hm
      refine q_iload_n (pc := 15) C dX7_wordsHad_15 rfl 1 rfl ?_
      refine q_aload_n (pc := 16) C dX7_wordsHad_16 rfl 0 rfl ?_
      refine q_iload_n (pc := 17) C dX7_wordsHad_17 rfl 2 rfl ?_
      obtain ⟨r1, h1, hm⟩ := o1_some hm
      refine q_callU (pc := 18) (k := 12) (As := [.int v2]) (rest := [.int v1]) (T := TX0) (owner := "Tessera$Store") (x := ⟨"Tessera$Store", "has", "(I)Z"⟩) C (c_St_has_12 hi h1) (by decide) (ce_12 _ _ _) (ci := 0) rfl (Or.inl rfl) tw_253 tw_254 tw_256 tw_255 tw_62 tw_257 (by decide +kernel) (by decide) (by decide) rfl dX7_wordsHad_18 ?_
      refine q_if_eq (pc := 21) (tgt := 35) C dX7_wordsHad_21 (by decide) (fun c2 => ?_) (fun c2 => ?_)
      · replace hm := hm_t c2 hm
        refine q_iconst (pc := 35) (v := (0 : Int32)) C dX7_wordsHad_35 (by decide) ?_
        refine q_iadd (pc := 36) C dX7_wordsHad_36 ?_
        refine q_istore_n (pc := 37) (lv' := [(1, .int (v1 + (0 : Int32))), (0, .ref (gad G 12)), (2, .int v2)]) C dX7_wordsHad_37 rfl (by decide) rfl ?_
        refine q_iinc (pc := 38) (k := 2) (v := (v2 + (1 : Int32))) (lv' := [(2, .int (v2 + (1 : Int32))), (1, .int (v1 + (0 : Int32))), (0, .ref (gad G 12))]) C dX7_wordsHad_38 rfl rfl (by decide) rfl ?_
        refine q_goto (pc := 41) (tgt := 4) C dX7_wordsHad_41 (by decide) ?_
        refine q_lv (lv' := [(0, .ref (gad G 12)), (1, .int (v1 + (0 : Int32))), (2, .int (v2 + (1 : Int32)))]) [2, 1, 0] rfl ?_
        exact ih _ _ _ _ hm kk
      · replace hm := hm_f c2 hm
        refine q_aload_n (pc := 24) C dX7_wordsHad_24 rfl 0 rfl ?_
        refine q_get (pc := 25) (T := TX0) (v := .ref (gad G 1)) C (by decide) (ce_12 _ _ _) (ci := 0) rfl inlX0 (j := 0) (by decide) rfl tw_67 (Or.inl rfl) dX7_wordsHad_25 ?_
        refine q_iload_n (pc := 28) C dX7_wordsHad_28 rfl 2 rfl ?_
        obtain ⟨r2, h2, hm⟩ := o1_some hm
        refine q_callV (pc := 29) (k := 1) (As := [.int v2]) (rest := [.int v1]) (T := TX2) C (c_Gr_wordsOf hi h2) (by decide) (ce_1 _ _ _) (ci := 2) rfl tw_416 tw_229 tw_230 tw_13 tw_231 (by decide +kernel) (by decide) (by decide) rfl dX7_wordsHad_29 ?_
        refine q_goto (pc := 32) (tgt := 36) C dX7_wordsHad_32 (by decide) ?_
        refine q_iadd (pc := 36) C dX7_wordsHad_36 ?_
        refine q_istore_n (pc := 37) (lv' := [(1, .int (v1 + r2)), (0, .ref (gad G 12)), (2, .int v2)]) C dX7_wordsHad_37 rfl (by decide) rfl ?_
        refine q_iinc (pc := 38) (k := 2) (v := (v2 + (1 : Int32))) (lv' := [(2, .int (v2 + (1 : Int32))), (1, .int (v1 + r2)), (0, .ref (gad G 12))]) C dX7_wordsHad_38 rfl rfl (by decide) rfl ?_
        refine q_goto (pc := 41) (tgt := 4) C dX7_wordsHad_41 (by decide) ?_
        refine q_lv (lv' := [(0, .ref (gad G 12)), (1, .int (v1 + r2)), (2, .int (v2 + (1 : Int32)))]) [2, 1, 0] rfl ?_
        exact ih _ _ _ _ hm kk
set_option maxRecDepth 100000 in
theorem c_St_wordsHad_12 {G : Gx} (hi : qinj (gad G)) {S : St}  {r9 : Int32} (hm : m_St_wordsHad 12 0 S  = some r9) : QMet G yX7_wordsHad cX7_wordsHad 3 (some .int) 1 21 [.ref (gad G 12)] S (some (.int r9)) S := by
  refine q_entry (by decide +kernel) rfl hi (by decide) ?_
  intro X C
  refine q_lv (lv' := [(0, .ref (gad G 12))]) [0] rfl ?_
  unfold m_St_wordsHad at hm
  refine q_iconst (pc := 0) (v := (0 : Int32)) C dX7_wordsHad_0 (by decide) ?_
  refine q_istore_n (pc := 1) (lv' := [(1, .int (0 : Int32)), (0, .ref (gad G 12))]) C dX7_wordsHad_1 rfl (by decide) rfl ?_
  refine q_iconst (pc := 2) (v := (0 : Int32)) C dX7_wordsHad_2 (by decide) ?_
  refine q_istore_n (pc := 3) (lv' := [(2, .int (0 : Int32)), (1, .int (0 : Int32)), (0, .ref (gad G 12))]) C dX7_wordsHad_3 rfl (by decide) rfl ?_
  refine q_lv (lv' := [(0, .ref (gad G 12)), (1, .int (0 : Int32)), (2, .int (0 : Int32))]) [2, 1, 0] rfl ?_
  obtain ⟨y1, h1, hm⟩ := o1_some hm
  refine w_St_wordsHad_12_L4 hi C 200 _ _ _ _ h1 ?_
  refine q_iload_n (pc := 44) C dX7_wordsHad_44 rfl 0 rfl ?_
  cases hm
  exact q_iret (pc := 45) C dX7_wordsHad_45
set_option maxRecDepth 100000 in
theorem w_St_countUnreached_12_L4 {G : Gx} (hi : qinj (gad G)) {X : Cx} (C : QC G X cX7_countUnreached 3 RX7 1 21 (some .int)) {Q : State → Prop} : ∀ (n : Nat) (S : St) (v1 : Int32) (v2 : Int32) (x1 : Int32), m_St_countUnreached_L4 12 0 n S v1 v2 = some x1 → QW G X 3 Q 48 [(1, .int x1)] [] S → QW G X 3 Q 4 [(0, .ref (gad G 12)), (1, .int v1), (2, .int v2)] [] S := by
  intro n
  induction n with
  | zero =>
    intro S v1 v2 x1 hm kk
    rw [m_St_countUnreached_L4] at hm
    cases hm
  | succ n ih =>
    intro S v1 v2 x1 hm kk
    rw [m_St_countUnreached_L4] at hm
    refine q_iload_n (pc := 4) C dX7_countUnreached_4 rfl 2 rfl ?_
    refine q_aload_n (pc := 5) C dX7_countUnreached_5 rfl 0 rfl ?_
    refine q_get (pc := 6) (T := TX0) (v := .ref (gad G 1)) C (by decide) (ce_12 _ _ _) (ci := 0) rfl inlX0 (j := 0) (by decide) rfl tw_67 (Or.inl rfl) dX7_countUnreached_6 ?_
    refine q_get (pc := 9) (T := TX2) (v := .int (S 1 6)) C (by decide) (ce_1 _ _ _) (ci := 2) rfl inlX2 (j := 6) (by decide) rfl tw_252 (Or.inl rfl) dX7_countUnreached_9 ?_
    refine q_icmp_ge (pc := 12) (tgt := 48) C dX7_countUnreached_12 (by decide) (fun c1 => ?_) (fun c1 => ?_)
    · replace hm := hm_t c1 hm
      cases hm
      refine q_lv (lv' := [(1, .int v1)]) [1] rfl ?_
      exact kk
    · replace hm := hm_f c1 hm
      refine q_iload_n (pc := 15) C dX7_countUnreached_15 rfl 1 rfl ?_
      refine q_aload_n (pc := 16) C dX7_countUnreached_16 rfl 0 rfl ?_
      refine q_iload_n (pc := 17) C dX7_countUnreached_17 rfl 2 rfl ?_
      obtain ⟨r1, h1, hm⟩ := o1_some hm
      refine q_callU (pc := 18) (k := 12) (As := [.int v2]) (rest := [.int v1]) (T := TX0) (owner := "Tessera$Store") (x := ⟨"Tessera$Store", "has", "(I)Z"⟩) C (c_St_has_12 hi h1) (by decide) (ce_12 _ _ _) (ci := 0) rfl (Or.inl rfl) tw_253 tw_254 tw_256 tw_255 tw_62 tw_257 (by decide +kernel) (by decide) (by decide) rfl dX7_countUnreached_18 ?_
      refine q_if_eq (pc := 21) (tgt := 39) C dX7_countUnreached_21 (by decide) (fun c2 => ?_) (fun c2 => ?_)
      · replace hm := hm_t c2 hm
        refine q_iconst (pc := 39) (v := (0 : Int32)) C dX7_countUnreached_39 (by decide) ?_
        refine q_iadd (pc := 40) C dX7_countUnreached_40 ?_
        refine q_istore_n (pc := 41) (lv' := [(1, .int (v1 + (0 : Int32))), (0, .ref (gad G 12)), (2, .int v2)]) C dX7_countUnreached_41 rfl (by decide) rfl ?_
        refine q_iinc (pc := 42) (k := 2) (v := (v2 + (1 : Int32))) (lv' := [(2, .int (v2 + (1 : Int32))), (1, .int (v1 + (0 : Int32))), (0, .ref (gad G 12))]) C dX7_countUnreached_42 rfl rfl (by decide) rfl ?_
        refine q_goto (pc := 45) (tgt := 4) C dX7_countUnreached_45 (by decide) ?_
        refine q_lv (lv' := [(0, .ref (gad G 12)), (1, .int (v1 + (0 : Int32))), (2, .int (v2 + (1 : Int32)))]) [2, 1, 0] rfl ?_
        exact ih _ _ _ _ hm kk
      · replace hm := hm_f c2 hm
        refine q_aload_n (pc := 24) C dX7_countUnreached_24 rfl 0 rfl ?_
        refine q_get (pc := 25) (T := TX0) (v := .ref (gad G 1)) C (by decide) (ce_12 _ _ _) (ci := 0) rfl inlX0 (j := 0) (by decide) rfl tw_67 (Or.inl rfl) dX7_countUnreached_25 ?_
        refine q_iload_n (pc := 28) C dX7_countUnreached_28 rfl 2 rfl ?_
        obtain ⟨r2, h2, hm⟩ := o1_some hm
        refine q_callV (pc := 29) (k := 1) (As := [.int v2]) (rest := [.int v1]) (T := TX2) C (c_Gr_isReached hi h2) (by decide) (ce_1 _ _ _) (ci := 2) rfl tw_525 tw_526 tw_527 tw_13 tw_528 (by decide +kernel) (by decide) (by decide) rfl dX7_countUnreached_29 ?_
        refine q_if_ne (pc := 32) (tgt := 39) C dX7_countUnreached_32 (by decide) (fun c3 => ?_) (fun c3 => ?_)
        · replace hm := hm_f c3 hm
          refine q_iconst (pc := 39) (v := (0 : Int32)) C dX7_countUnreached_39 (by decide) ?_
          refine q_iadd (pc := 40) C dX7_countUnreached_40 ?_
          refine q_istore_n (pc := 41) (lv' := [(1, .int (v1 + (0 : Int32))), (0, .ref (gad G 12)), (2, .int v2)]) C dX7_countUnreached_41 rfl (by decide) rfl ?_
          refine q_iinc (pc := 42) (k := 2) (v := (v2 + (1 : Int32))) (lv' := [(2, .int (v2 + (1 : Int32))), (1, .int (v1 + (0 : Int32))), (0, .ref (gad G 12))]) C dX7_countUnreached_42 rfl rfl (by decide) rfl ?_
          refine q_goto (pc := 45) (tgt := 4) C dX7_countUnreached_45 (by decide) ?_
          refine q_lv (lv' := [(0, .ref (gad G 12)), (1, .int (v1 + (0 : Int32))), (2, .int (v2 + (1 : Int32)))]) [2, 1, 0] rfl ?_
          exact ih _ _ _ _ hm kk
        · replace hm := hm_t c3 hm
          refine q_iconst (pc := 35) (v := (1 : Int32)) C dX7_countUnreached_35 (by decide) ?_
          refine q_goto (pc := 36) (tgt := 40) C dX7_countUnreached_36 (by decide) ?_
          refine q_iadd (pc := 40) C dX7_countUnreached_40 ?_
          refine q_istore_n (pc := 41) (lv' := [(1, .int (v1 + (1 : Int32))), (0, .ref (gad G 12)), (2, .int v2)]) C dX7_countUnreached_41 rfl (by decide) rfl ?_
          refine q_iinc (pc := 42) (k := 2) (v := (v2 + (1 : Int32))) (lv' := [(2, .int (v2 + (1 : Int32))), (1, .int (v1 + (1 : Int32))), (0, .ref (gad G 12))]) C dX7_countUnreached_42 rfl rfl (by decide) rfl ?_
          refine q_goto (pc := 45) (tgt := 4) C dX7_countUnreached_45 (by decide) ?_
          refine q_lv (lv' := [(0, .ref (gad G 12)), (1, .int (v1 + (1 : Int32))), (2, .int (v2 + (1 : Int32)))]) [2, 1, 0] rfl ?_
          exact ih _ _ _ _ hm kk
set_option maxRecDepth 100000 in
theorem c_St_countUnreached_12 {G : Gx} (hi : qinj (gad G)) {S : St}  {r9 : Int32} (hm : m_St_countUnreached 12 0 S  = some r9) : QMet G yX7_countUnreached cX7_countUnreached 3 (some .int) 1 21 [.ref (gad G 12)] S (some (.int r9)) S := by
  refine q_entry (by decide +kernel) rfl hi (by decide) ?_
  intro X C
  refine q_lv (lv' := [(0, .ref (gad G 12))]) [0] rfl ?_
  unfold m_St_countUnreached at hm
  refine q_iconst (pc := 0) (v := (0 : Int32)) C dX7_countUnreached_0 (by decide) ?_
  refine q_istore_n (pc := 1) (lv' := [(1, .int (0 : Int32)), (0, .ref (gad G 12))]) C dX7_countUnreached_1 rfl (by decide) rfl ?_
  refine q_iconst (pc := 2) (v := (0 : Int32)) C dX7_countUnreached_2 (by decide) ?_
  refine q_istore_n (pc := 3) (lv' := [(2, .int (0 : Int32)), (1, .int (0 : Int32)), (0, .ref (gad G 12))]) C dX7_countUnreached_3 rfl (by decide) rfl ?_
  refine q_lv (lv' := [(0, .ref (gad G 12)), (1, .int (0 : Int32)), (2, .int (0 : Int32))]) [2, 1, 0] rfl ?_
  obtain ⟨y1, h1, hm⟩ := o1_some hm
  refine w_St_countUnreached_12_L4 hi C 200 _ _ _ _ h1 ?_
  refine q_iload_n (pc := 48) C dX7_countUnreached_48 rfl 0 rfl ?_
  cases hm
  exact q_iret (pc := 49) C dX7_countUnreached_49
set_option maxRecDepth 100000 in
theorem w_St_wordsHad_18_L4 {G : Gx} (hi : qinj (gad G)) {X : Cx} (C : QC G X cX7_wordsHad 3 RX7 1 21 (some .int)) {Q : State → Prop} : ∀ (n : Nat) (S : St) (v1 : Int32) (v2 : Int32) (x1 : Int32), m_St_wordsHad_L4 18 0 n S v1 v2 = some x1 → QW G X 3 Q 44 [(1, .int x1)] [] S → QW G X 3 Q 4 [(0, .ref (gad G 18)), (1, .int v1), (2, .int v2)] [] S := by
  intro n
  induction n with
  | zero =>
    intro S v1 v2 x1 hm kk
    rw [m_St_wordsHad_L4] at hm
    cases hm
  | succ n ih =>
    intro S v1 v2 x1 hm kk
    rw [m_St_wordsHad_L4] at hm
    refine q_iload_n (pc := 4) C dX7_wordsHad_4 rfl 2 rfl ?_
    refine q_aload_n (pc := 5) C dX7_wordsHad_5 rfl 0 rfl ?_
    refine q_get (pc := 6) (T := TX4) (v := .ref (gad G 1)) C (by decide) (ce_18 _ _ _) (ci := 4) rfl inlX4 (j := 0) (by decide) rfl tw_67 (Or.inl rfl) dX7_wordsHad_6 ?_
    refine q_get (pc := 9) (T := TX2) (v := .int (S 1 6)) C (by decide) (ce_1 _ _ _) (ci := 2) rfl inlX2 (j := 6) (by decide) rfl tw_252 (Or.inl rfl) dX7_wordsHad_9 ?_
    refine q_icmp_ge (pc := 12) (tgt := 44) C dX7_wordsHad_12 (by decide) (fun c1 => ?_) (fun c1 => ?_)
    · replace hm := hm_t c1 hm
      cases hm
      refine q_lv (lv' := [(1, .int v1)]) [1] rfl ?_
      exact kk
    · replace hm := hm_f c1 hm
      refine q_iload_n (pc := 15) C dX7_wordsHad_15 rfl 1 rfl ?_
      refine q_aload_n (pc := 16) C dX7_wordsHad_16 rfl 0 rfl ?_
      refine q_iload_n (pc := 17) C dX7_wordsHad_17 rfl 2 rfl ?_
      obtain ⟨r1, h1, hm⟩ := o1_some hm
      refine q_callU (pc := 18) (k := 18) (As := [.int v2]) (rest := [.int v1]) (T := TX4) (owner := "Tessera$Store") (x := ⟨"Tessera$Store", "has", "(I)Z"⟩) C (c_St_has_18 hi h1) (by decide) (ce_18 _ _ _) (ci := 4) rfl (Or.inl rfl) tw_253 tw_254 tw_256 tw_260 tw_62 tw_257 (by decide +kernel) (by decide) (by decide) rfl dX7_wordsHad_18 ?_
      refine q_if_eq (pc := 21) (tgt := 35) C dX7_wordsHad_21 (by decide) (fun c2 => ?_) (fun c2 => ?_)
      · replace hm := hm_t c2 hm
        refine q_iconst (pc := 35) (v := (0 : Int32)) C dX7_wordsHad_35 (by decide) ?_
        refine q_iadd (pc := 36) C dX7_wordsHad_36 ?_
        refine q_istore_n (pc := 37) (lv' := [(1, .int (v1 + (0 : Int32))), (0, .ref (gad G 18)), (2, .int v2)]) C dX7_wordsHad_37 rfl (by decide) rfl ?_
        refine q_iinc (pc := 38) (k := 2) (v := (v2 + (1 : Int32))) (lv' := [(2, .int (v2 + (1 : Int32))), (1, .int (v1 + (0 : Int32))), (0, .ref (gad G 18))]) C dX7_wordsHad_38 rfl rfl (by decide) rfl ?_
        refine q_goto (pc := 41) (tgt := 4) C dX7_wordsHad_41 (by decide) ?_
        refine q_lv (lv' := [(0, .ref (gad G 18)), (1, .int (v1 + (0 : Int32))), (2, .int (v2 + (1 : Int32)))]) [2, 1, 0] rfl ?_
        exact ih _ _ _ _ hm kk
      · replace hm := hm_f c2 hm
        refine q_aload_n (pc := 24) C dX7_wordsHad_24 rfl 0 rfl ?_
        refine q_get (pc := 25) (T := TX4) (v := .ref (gad G 1)) C (by decide) (ce_18 _ _ _) (ci := 4) rfl inlX4 (j := 0) (by decide) rfl tw_67 (Or.inl rfl) dX7_wordsHad_25 ?_
        refine q_iload_n (pc := 28) C dX7_wordsHad_28 rfl 2 rfl ?_
        obtain ⟨r2, h2, hm⟩ := o1_some hm
        refine q_callV (pc := 29) (k := 1) (As := [.int v2]) (rest := [.int v1]) (T := TX2) C (c_Gr_wordsOf hi h2) (by decide) (ce_1 _ _ _) (ci := 2) rfl tw_416 tw_229 tw_230 tw_13 tw_231 (by decide +kernel) (by decide) (by decide) rfl dX7_wordsHad_29 ?_
        refine q_goto (pc := 32) (tgt := 36) C dX7_wordsHad_32 (by decide) ?_
        refine q_iadd (pc := 36) C dX7_wordsHad_36 ?_
        refine q_istore_n (pc := 37) (lv' := [(1, .int (v1 + r2)), (0, .ref (gad G 18)), (2, .int v2)]) C dX7_wordsHad_37 rfl (by decide) rfl ?_
        refine q_iinc (pc := 38) (k := 2) (v := (v2 + (1 : Int32))) (lv' := [(2, .int (v2 + (1 : Int32))), (1, .int (v1 + r2)), (0, .ref (gad G 18))]) C dX7_wordsHad_38 rfl rfl (by decide) rfl ?_
        refine q_goto (pc := 41) (tgt := 4) C dX7_wordsHad_41 (by decide) ?_
        refine q_lv (lv' := [(0, .ref (gad G 18)), (1, .int (v1 + r2)), (2, .int (v2 + (1 : Int32)))]) [2, 1, 0] rfl ?_
        exact ih _ _ _ _ hm kk
set_option maxRecDepth 100000 in
theorem c_St_wordsHad_18 {G : Gx} (hi : qinj (gad G)) {S : St}  {r9 : Int32} (hm : m_St_wordsHad 18 0 S  = some r9) : QMet G yX7_wordsHad cX7_wordsHad 3 (some .int) 1 21 [.ref (gad G 18)] S (some (.int r9)) S := by
  refine q_entry (by decide +kernel) rfl hi (by decide) ?_
  intro X C
  refine q_lv (lv' := [(0, .ref (gad G 18))]) [0] rfl ?_
  unfold m_St_wordsHad at hm
  refine q_iconst (pc := 0) (v := (0 : Int32)) C dX7_wordsHad_0 (by decide) ?_
  refine q_istore_n (pc := 1) (lv' := [(1, .int (0 : Int32)), (0, .ref (gad G 18))]) C dX7_wordsHad_1 rfl (by decide) rfl ?_
  refine q_iconst (pc := 2) (v := (0 : Int32)) C dX7_wordsHad_2 (by decide) ?_
  refine q_istore_n (pc := 3) (lv' := [(2, .int (0 : Int32)), (1, .int (0 : Int32)), (0, .ref (gad G 18))]) C dX7_wordsHad_3 rfl (by decide) rfl ?_
  refine q_lv (lv' := [(0, .ref (gad G 18)), (1, .int (0 : Int32)), (2, .int (0 : Int32))]) [2, 1, 0] rfl ?_
  obtain ⟨y1, h1, hm⟩ := o1_some hm
  refine w_St_wordsHad_18_L4 hi C 200 _ _ _ _ h1 ?_
  refine q_iload_n (pc := 44) C dX7_wordsHad_44 rfl 0 rfl ?_
  cases hm
  exact q_iret (pc := 45) C dX7_wordsHad_45
set_option maxRecDepth 100000 in
theorem w_St_countUnreached_18_L4 {G : Gx} (hi : qinj (gad G)) {X : Cx} (C : QC G X cX7_countUnreached 3 RX7 1 21 (some .int)) {Q : State → Prop} : ∀ (n : Nat) (S : St) (v1 : Int32) (v2 : Int32) (x1 : Int32), m_St_countUnreached_L4 18 0 n S v1 v2 = some x1 → QW G X 3 Q 48 [(1, .int x1)] [] S → QW G X 3 Q 4 [(0, .ref (gad G 18)), (1, .int v1), (2, .int v2)] [] S := by
  intro n
  induction n with
  | zero =>
    intro S v1 v2 x1 hm kk
    rw [m_St_countUnreached_L4] at hm
    cases hm
  | succ n ih =>
    intro S v1 v2 x1 hm kk
    rw [m_St_countUnreached_L4] at hm
    refine q_iload_n (pc := 4) C dX7_countUnreached_4 rfl 2 rfl ?_
    refine q_aload_n (pc := 5) C dX7_countUnreached_5 rfl 0 rfl ?_
    refine q_get (pc := 6) (T := TX4) (v := .ref (gad G 1)) C (by decide) (ce_18 _ _ _) (ci := 4) rfl inlX4 (j := 0) (by decide) rfl tw_67 (Or.inl rfl) dX7_countUnreached_6 ?_
    refine q_get (pc := 9) (T := TX2) (v := .int (S 1 6)) C (by decide) (ce_1 _ _ _) (ci := 2) rfl inlX2 (j := 6) (by decide) rfl tw_252 (Or.inl rfl) dX7_countUnreached_9 ?_
    refine q_icmp_ge (pc := 12) (tgt := 48) C dX7_countUnreached_12 (by decide) (fun c1 => ?_) (fun c1 => ?_)
    · replace hm := hm_t c1 hm
      cases hm
      refine q_lv (lv' := [(1, .int v1)]) [1] rfl ?_
      exact kk
    · replace hm := hm_f c1 hm
      refine q_iload_n (pc := 15) C dX7_countUnreached_15 rfl 1 rfl ?_
      refine q_aload_n (pc := 16) C dX7_countUnreached_16 rfl 0 rfl ?_
      refine q_iload_n (pc := 17) C dX7_countUnreached_17 rfl 2 rfl ?_
      obtain ⟨r1, h1, hm⟩ := o1_some hm
      refine q_callU (pc := 18) (k := 18) (As := [.int v2]) (rest := [.int v1]) (T := TX4) (owner := "Tessera$Store") (x := ⟨"Tessera$Store", "has", "(I)Z"⟩) C (c_St_has_18 hi h1) (by decide) (ce_18 _ _ _) (ci := 4) rfl (Or.inl rfl) tw_253 tw_254 tw_256 tw_260 tw_62 tw_257 (by decide +kernel) (by decide) (by decide) rfl dX7_countUnreached_18 ?_
      refine q_if_eq (pc := 21) (tgt := 39) C dX7_countUnreached_21 (by decide) (fun c2 => ?_) (fun c2 => ?_)
      · replace hm := hm_t c2 hm
        refine q_iconst (pc := 39) (v := (0 : Int32)) C dX7_countUnreached_39 (by decide) ?_
        refine q_iadd (pc := 40) C dX7_countUnreached_40 ?_
        refine q_istore_n (pc := 41) (lv' := [(1, .int (v1 + (0 : Int32))), (0, .ref (gad G 18)), (2, .int v2)]) C dX7_countUnreached_41 rfl (by decide) rfl ?_
        refine q_iinc (pc := 42) (k := 2) (v := (v2 + (1 : Int32))) (lv' := [(2, .int (v2 + (1 : Int32))), (1, .int (v1 + (0 : Int32))), (0, .ref (gad G 18))]) C dX7_countUnreached_42 rfl rfl (by decide) rfl ?_
        refine q_goto (pc := 45) (tgt := 4) C dX7_countUnreached_45 (by decide) ?_
        refine q_lv (lv' := [(0, .ref (gad G 18)), (1, .int (v1 + (0 : Int32))), (2, .int (v2 + (1 : Int32)))]) [2, 1, 0] rfl ?_
        exact ih _ _ _ _ hm kk
      · replace hm := hm_f c2 hm
        refine q_aload_n (pc := 24) C dX7_countUnreached_24 rfl 0 rfl ?_
        refine q_get (pc := 25) (T := TX4) (v := .ref (gad G 1)) C (by decide) (ce_18 _ _ _) (ci := 4) rfl inlX4 (j := 0) (by decide) rfl tw_67 (Or.inl rfl) dX7_countUnreached_25 ?_
        refine q_iload_n (pc := 28) C dX7_countUnreached_28 rfl 2 rfl ?_
        obtain ⟨r2, h2, hm⟩ := o1_some hm
        refine q_callV (pc := 29) (k := 1) (As := [.int v2]) (rest := [.int v1]) (T := TX2) C (c_Gr_isReached hi h2) (by decide) (ce_1 _ _ _) (ci := 2) rfl tw_525 tw_526 tw_527 tw_13 tw_528 (by decide +kernel) (by decide) (by decide) rfl dX7_countUnreached_29 ?_
        refine q_if_ne (pc := 32) (tgt := 39) C dX7_countUnreached_32 (by decide) (fun c3 => ?_) (fun c3 => ?_)
        · replace hm := hm_f c3 hm
          refine q_iconst (pc := 39) (v := (0 : Int32)) C dX7_countUnreached_39 (by decide) ?_
          refine q_iadd (pc := 40) C dX7_countUnreached_40 ?_
          refine q_istore_n (pc := 41) (lv' := [(1, .int (v1 + (0 : Int32))), (0, .ref (gad G 18)), (2, .int v2)]) C dX7_countUnreached_41 rfl (by decide) rfl ?_
          refine q_iinc (pc := 42) (k := 2) (v := (v2 + (1 : Int32))) (lv' := [(2, .int (v2 + (1 : Int32))), (1, .int (v1 + (0 : Int32))), (0, .ref (gad G 18))]) C dX7_countUnreached_42 rfl rfl (by decide) rfl ?_
          refine q_goto (pc := 45) (tgt := 4) C dX7_countUnreached_45 (by decide) ?_
          refine q_lv (lv' := [(0, .ref (gad G 18)), (1, .int (v1 + (0 : Int32))), (2, .int (v2 + (1 : Int32)))]) [2, 1, 0] rfl ?_
          exact ih _ _ _ _ hm kk
        · replace hm := hm_t c3 hm
          refine q_iconst (pc := 35) (v := (1 : Int32)) C dX7_countUnreached_35 (by decide) ?_
          refine q_goto (pc := 36) (tgt := 40) C dX7_countUnreached_36 (by decide) ?_
          refine q_iadd (pc := 40) C dX7_countUnreached_40 ?_
          refine q_istore_n (pc := 41) (lv' := [(1, .int (v1 + (1 : Int32))), (0, .ref (gad G 18)), (2, .int v2)]) C dX7_countUnreached_41 rfl (by decide) rfl ?_
          refine q_iinc (pc := 42) (k := 2) (v := (v2 + (1 : Int32))) (lv' := [(2, .int (v2 + (1 : Int32))), (1, .int (v1 + (1 : Int32))), (0, .ref (gad G 18))]) C dX7_countUnreached_42 rfl rfl (by decide) rfl ?_
          refine q_goto (pc := 45) (tgt := 4) C dX7_countUnreached_45 (by decide) ?_
          refine q_lv (lv' := [(0, .ref (gad G 18)), (1, .int (v1 + (1 : Int32))), (2, .int (v2 + (1 : Int32)))]) [2, 1, 0] rfl ?_
          exact ih _ _ _ _ hm kk
set_option maxRecDepth 100000 in
theorem c_St_countUnreached_18 {G : Gx} (hi : qinj (gad G)) {S : St}  {r9 : Int32} (hm : m_St_countUnreached 18 0 S  = some r9) : QMet G yX7_countUnreached cX7_countUnreached 3 (some .int) 1 21 [.ref (gad G 18)] S (some (.int r9)) S := by
  refine q_entry (by decide +kernel) rfl hi (by decide) ?_
  intro X C
  refine q_lv (lv' := [(0, .ref (gad G 18))]) [0] rfl ?_
  unfold m_St_countUnreached at hm
  refine q_iconst (pc := 0) (v := (0 : Int32)) C dX7_countUnreached_0 (by decide) ?_
  refine q_istore_n (pc := 1) (lv' := [(1, .int (0 : Int32)), (0, .ref (gad G 18))]) C dX7_countUnreached_1 rfl (by decide) rfl ?_
  refine q_iconst (pc := 2) (v := (0 : Int32)) C dX7_countUnreached_2 (by decide) ?_
  refine q_istore_n (pc := 3) (lv' := [(2, .int (0 : Int32)), (1, .int (0 : Int32)), (0, .ref (gad G 18))]) C dX7_countUnreached_3 rfl (by decide) rfl ?_
  refine q_lv (lv' := [(0, .ref (gad G 18)), (1, .int (0 : Int32)), (2, .int (0 : Int32))]) [2, 1, 0] rfl ?_
  obtain ⟨y1, h1, hm⟩ := o1_some hm
  refine w_St_countUnreached_18_L4 hi C 200 _ _ _ _ h1 ?_
  refine q_iload_n (pc := 48) C dX7_countUnreached_48 rfl 0 rfl ?_
  cases hm
  exact q_iret (pc := 49) C dX7_countUnreached_49
set_option maxRecDepth 100000 in
theorem w_St_countUnreached_31_L4 {G : Gx} (hi : qinj (gad G)) {X : Cx} (C : QC G X cX7_countUnreached 3 RX7 1 21 (some .int)) {Q : State → Prop} : ∀ (n : Nat) (S : St) (v1 : Int32) (v2 : Int32) (x1 : Int32), m_St_countUnreached_L4 31 1 n S v1 v2 = some x1 → QW G X 3 Q 48 [(1, .int x1)] [] S → QW G X 3 Q 4 [(0, .ref (gad G 31)), (1, .int v1), (2, .int v2)] [] S := by
  intro n
  induction n with
  | zero =>
    intro S v1 v2 x1 hm kk
    rw [m_St_countUnreached_L4] at hm
    cases hm
  | succ n ih =>
    intro S v1 v2 x1 hm kk
    rw [m_St_countUnreached_L4] at hm
    refine q_iload_n (pc := 4) C dX7_countUnreached_4 rfl 2 rfl ?_
    refine q_aload_n (pc := 5) C dX7_countUnreached_5 rfl 0 rfl ?_
    refine q_get (pc := 6) (T := TX3) (v := .ref (gad G 1)) C (by decide) (ce_31 _ _ _) (ci := 3) rfl inlX3 (j := 1) (by decide) rfl tw_67 (Or.inl rfl) dX7_countUnreached_6 ?_
    refine q_get (pc := 9) (T := TX2) (v := .int (S 1 6)) C (by decide) (ce_1 _ _ _) (ci := 2) rfl inlX2 (j := 6) (by decide) rfl tw_252 (Or.inl rfl) dX7_countUnreached_9 ?_
    refine q_icmp_ge (pc := 12) (tgt := 48) C dX7_countUnreached_12 (by decide) (fun c1 => ?_) (fun c1 => ?_)
    · replace hm := hm_t c1 hm
      cases hm
      refine q_lv (lv' := [(1, .int v1)]) [1] rfl ?_
      exact kk
    · replace hm := hm_f c1 hm
      refine q_iload_n (pc := 15) C dX7_countUnreached_15 rfl 1 rfl ?_
      refine q_aload_n (pc := 16) C dX7_countUnreached_16 rfl 0 rfl ?_
      refine q_iload_n (pc := 17) C dX7_countUnreached_17 rfl 2 rfl ?_
      obtain ⟨r1, h1, hm⟩ := o1_some hm
      refine q_callU (pc := 18) (k := 31) (As := [.int v2]) (rest := [.int v1]) (T := TX3) (owner := "Tessera$Store") (x := ⟨"Tessera$Store", "has", "(I)Z"⟩) C (c_St_has_31 hi h1) (by decide) (ce_31 _ _ _) (ci := 3) rfl (Or.inl rfl) tw_253 tw_254 tw_256 tw_259 tw_62 tw_257 (by decide +kernel) (by decide) (by decide) rfl dX7_countUnreached_18 ?_
      refine q_if_eq (pc := 21) (tgt := 39) C dX7_countUnreached_21 (by decide) (fun c2 => ?_) (fun c2 => ?_)
      · replace hm := hm_t c2 hm
        refine q_iconst (pc := 39) (v := (0 : Int32)) C dX7_countUnreached_39 (by decide) ?_
        refine q_iadd (pc := 40) C dX7_countUnreached_40 ?_
        refine q_istore_n (pc := 41) (lv' := [(1, .int (v1 + (0 : Int32))), (0, .ref (gad G 31)), (2, .int v2)]) C dX7_countUnreached_41 rfl (by decide) rfl ?_
        refine q_iinc (pc := 42) (k := 2) (v := (v2 + (1 : Int32))) (lv' := [(2, .int (v2 + (1 : Int32))), (1, .int (v1 + (0 : Int32))), (0, .ref (gad G 31))]) C dX7_countUnreached_42 rfl rfl (by decide) rfl ?_
        refine q_goto (pc := 45) (tgt := 4) C dX7_countUnreached_45 (by decide) ?_
        refine q_lv (lv' := [(0, .ref (gad G 31)), (1, .int (v1 + (0 : Int32))), (2, .int (v2 + (1 : Int32)))]) [2, 1, 0] rfl ?_
        exact ih _ _ _ _ hm kk
      · replace hm := hm_f c2 hm
        refine q_aload_n (pc := 24) C dX7_countUnreached_24 rfl 0 rfl ?_
        refine q_get (pc := 25) (T := TX3) (v := .ref (gad G 1)) C (by decide) (ce_31 _ _ _) (ci := 3) rfl inlX3 (j := 1) (by decide) rfl tw_67 (Or.inl rfl) dX7_countUnreached_25 ?_
        refine q_iload_n (pc := 28) C dX7_countUnreached_28 rfl 2 rfl ?_
        obtain ⟨r2, h2, hm⟩ := o1_some hm
        refine q_callV (pc := 29) (k := 1) (As := [.int v2]) (rest := [.int v1]) (T := TX2) C (c_Gr_isReached hi h2) (by decide) (ce_1 _ _ _) (ci := 2) rfl tw_525 tw_526 tw_527 tw_13 tw_528 (by decide +kernel) (by decide) (by decide) rfl dX7_countUnreached_29 ?_
        refine q_if_ne (pc := 32) (tgt := 39) C dX7_countUnreached_32 (by decide) (fun c3 => ?_) (fun c3 => ?_)
        · replace hm := hm_f c3 hm
          refine q_iconst (pc := 39) (v := (0 : Int32)) C dX7_countUnreached_39 (by decide) ?_
          refine q_iadd (pc := 40) C dX7_countUnreached_40 ?_
          refine q_istore_n (pc := 41) (lv' := [(1, .int (v1 + (0 : Int32))), (0, .ref (gad G 31)), (2, .int v2)]) C dX7_countUnreached_41 rfl (by decide) rfl ?_
          refine q_iinc (pc := 42) (k := 2) (v := (v2 + (1 : Int32))) (lv' := [(2, .int (v2 + (1 : Int32))), (1, .int (v1 + (0 : Int32))), (0, .ref (gad G 31))]) C dX7_countUnreached_42 rfl rfl (by decide) rfl ?_
          refine q_goto (pc := 45) (tgt := 4) C dX7_countUnreached_45 (by decide) ?_
          refine q_lv (lv' := [(0, .ref (gad G 31)), (1, .int (v1 + (0 : Int32))), (2, .int (v2 + (1 : Int32)))]) [2, 1, 0] rfl ?_
          exact ih _ _ _ _ hm kk
        · replace hm := hm_t c3 hm
          refine q_iconst (pc := 35) (v := (1 : Int32)) C dX7_countUnreached_35 (by decide) ?_
          refine q_goto (pc := 36) (tgt := 40) C dX7_countUnreached_36 (by decide) ?_
          refine q_iadd (pc := 40) C dX7_countUnreached_40 ?_
          refine q_istore_n (pc := 41) (lv' := [(1, .int (v1 + (1 : Int32))), (0, .ref (gad G 31)), (2, .int v2)]) C dX7_countUnreached_41 rfl (by decide) rfl ?_
          refine q_iinc (pc := 42) (k := 2) (v := (v2 + (1 : Int32))) (lv' := [(2, .int (v2 + (1 : Int32))), (1, .int (v1 + (1 : Int32))), (0, .ref (gad G 31))]) C dX7_countUnreached_42 rfl rfl (by decide) rfl ?_
          refine q_goto (pc := 45) (tgt := 4) C dX7_countUnreached_45 (by decide) ?_
          refine q_lv (lv' := [(0, .ref (gad G 31)), (1, .int (v1 + (1 : Int32))), (2, .int (v2 + (1 : Int32)))]) [2, 1, 0] rfl ?_
          exact ih _ _ _ _ hm kk
set_option maxRecDepth 100000 in
theorem c_St_countUnreached_31 {G : Gx} (hi : qinj (gad G)) {S : St}  {r9 : Int32} (hm : m_St_countUnreached 31 1 S  = some r9) : QMet G yX7_countUnreached cX7_countUnreached 3 (some .int) 1 21 [.ref (gad G 31)] S (some (.int r9)) S := by
  refine q_entry (by decide +kernel) rfl hi (by decide) ?_
  intro X C
  refine q_lv (lv' := [(0, .ref (gad G 31))]) [0] rfl ?_
  unfold m_St_countUnreached at hm
  refine q_iconst (pc := 0) (v := (0 : Int32)) C dX7_countUnreached_0 (by decide) ?_
  refine q_istore_n (pc := 1) (lv' := [(1, .int (0 : Int32)), (0, .ref (gad G 31))]) C dX7_countUnreached_1 rfl (by decide) rfl ?_
  refine q_iconst (pc := 2) (v := (0 : Int32)) C dX7_countUnreached_2 (by decide) ?_
  refine q_istore_n (pc := 3) (lv' := [(2, .int (0 : Int32)), (1, .int (0 : Int32)), (0, .ref (gad G 31))]) C dX7_countUnreached_3 rfl (by decide) rfl ?_
  refine q_lv (lv' := [(0, .ref (gad G 31)), (1, .int (0 : Int32)), (2, .int (0 : Int32))]) [2, 1, 0] rfl ?_
  obtain ⟨y1, h1, hm⟩ := o1_some hm
  refine w_St_countUnreached_31_L4 hi C 200 _ _ _ _ h1 ?_
  refine q_iload_n (pc := 48) C dX7_countUnreached_48 rfl 0 rfl ?_
  cases hm
  exact q_iret (pc := 49) C dX7_countUnreached_49
set_option maxRecDepth 100000 in
theorem w_Sc_freeTogether_31_L10 {G : Gx} (hi : qinj (gad G)) {X : Cx} (C : QC G X cX6_freeTogether 4 RX6 4 87 (some .int)) {Q : State → Prop} : ∀ (n : Nat) (S : St) (v1 : Int32) (v2 : Int32) (v3 : Int32) (x1 : Int32), m_Sc_freeTogether_L10 31 n S v1 v2 v3 = some x1 → QW G X 4 Q 54 [(1, .int x1)] [] S → QW G X 4 Q 10 [(0, .ref (gad G 31)), (1, .int v1), (2, .int v2), (3, .int v3)] [] S := by
  intro n
  induction n with
  | zero =>
    intro S v1 v2 v3 x1 hm kk
    rw [m_Sc_freeTogether_L10] at hm
    cases hm
  | succ n ih =>
    intro S v1 v2 v3 x1 hm kk
    rw [m_Sc_freeTogether_L10] at hm
    refine q_iload_n (pc := 10) C dX6_freeTogether_10 rfl 3 rfl ?_
    refine q_aload_n (pc := 11) C dX6_freeTogether_11 rfl 0 rfl ?_
    refine q_get (pc := 12) (T := TX3) (v := .int (S 31 2)) C (by decide) (ce_31 _ _ _) (ci := 3) rfl inlX3 (j := 2) (by decide) rfl tw_320 (Or.inr tw_321) dX6_freeTogether_12 ?_
    refine q_icmp_ge (pc := 15) (tgt := 54) C dX6_freeTogether_15 (by decide) (fun c1 => ?_) (fun c1 => ?_)
    · replace hm := hm_t c1 hm
      cases hm
      refine q_lv (lv' := [(1, .int v1)]) [1] rfl ?_
      exact kk
    · replace hm := hm_f c1 hm
      refine q_iload_n (pc := 18) C dX6_freeTogether_18 rfl 3 rfl ?_
      refine q_sipush (pc := 19) (v := (160 : Int32)) C dX6_freeTogether_19 (by decide) ?_
      refine q_icmp_ge (pc := 22) (tgt := 54) C dX6_freeTogether_22 (by decide) (fun c2 => ?_) (fun c2 => ?_)
      · replace hm := hm_t c2 hm
        cases hm
        refine q_lv (lv' := [(1, .int v1)]) [1] rfl ?_
        exact kk
      · replace hm := hm_f c2 hm
        refine q_aload_n (pc := 25) C dX6_freeTogether_25 rfl 0 rfl ?_
        refine q_get (pc := 26) (T := TX3) (v := .ref (gad G 34)) C (by decide) (ce_31 _ _ _) (ci := 3) rfl inlX3 (j := 0) (by decide) rfl tw_80 (Or.inl rfl) dX6_freeTogether_26 ?_
        refine q_iload_n (pc := 29) C dX6_freeTogether_29 rfl 3 rfl ?_
        obtain ⟨b1, hm⟩ := oi_some hm
        refine q_zald (pc := 30) C (by decide) (ce_34 _ _ _) (ty_34 _) b1 dX6_freeTogether_30 ?_
        refine q_if_eq (pc := 31) (tgt := 38) C dX6_freeTogether_31 (by decide) (fun c3 => ?_) (fun c3 => ?_)
        · replace hm := hm_t c3 hm
          refine q_iload_n (pc := 38) C dX6_freeTogether_38 rfl 2 rfl ?_
          refine q_iconst (pc := 39) (v := (1 : Int32)) C dX6_freeTogether_39 (by decide) ?_
          refine q_iadd (pc := 40) C dX6_freeTogether_40 ?_
          refine q_istore_n (pc := 41) (lv' := [(2, .int (v2 + (1 : Int32))), (0, .ref (gad G 31)), (1, .int v1), (3, .int v3)]) C dX6_freeTogether_41 rfl (by decide) rfl ?_
          refine q_iload_n (pc := 42) C dX6_freeTogether_42 rfl 2 rfl ?_
          refine q_iload_n (pc := 43) C dX6_freeTogether_43 rfl 0 rfl ?_
          refine q_max (pc := 44) C tw_746 tw_643 tw_644 tw_645 (by decide) (by decide) dX6_freeTogether_44 ?_
          refine q_istore_n (pc := 47) (lv' := [(1, .int (if v1 < (v2 + (1 : Int32)) then (v2 + (1 : Int32)) else v1)), (2, .int (v2 + (1 : Int32))), (0, .ref (gad G 31)), (3, .int v3)]) C dX6_freeTogether_47 rfl (by decide) rfl ?_
          refine q_iinc (pc := 48) (k := 3) (v := (v3 + (1 : Int32))) (lv' := [(3, .int (v3 + (1 : Int32))), (1, .int (if v1 < (v2 + (1 : Int32)) then (v2 + (1 : Int32)) else v1)), (2, .int (v2 + (1 : Int32))), (0, .ref (gad G 31))]) C dX6_freeTogether_48 rfl rfl (by decide) rfl ?_
          refine q_goto (pc := 51) (tgt := 10) C dX6_freeTogether_51 (by decide) ?_
          refine q_lv (lv' := [(0, .ref (gad G 31)), (1, .int (if v1 < (v2 + (1 : Int32)) then (v2 + (1 : Int32)) else v1)), (2, .int (v2 + (1 : Int32))), (3, .int (v3 + (1 : Int32)))]) [3, 1, 2, 0] rfl ?_
          exact ih _ _ _ _ _ hm kk
        · replace hm := hm_f c3 hm
          refine q_iconst (pc := 34) (v := (0 : Int32)) C dX6_freeTogether_34 (by decide) ?_
          refine q_goto (pc := 35) (tgt := 41) C dX6_freeTogether_35 (by decide) ?_
          refine q_istore_n (pc := 41) (lv' := [(2, .int (0 : Int32)), (0, .ref (gad G 31)), (1, .int v1), (3, .int v3)]) C dX6_freeTogether_41 rfl (by decide) rfl ?_
          refine q_iload_n (pc := 42) C dX6_freeTogether_42 rfl 2 rfl ?_
          refine q_iload_n (pc := 43) C dX6_freeTogether_43 rfl 0 rfl ?_
          refine q_max (pc := 44) C tw_746 tw_643 tw_644 tw_645 (by decide) (by decide) dX6_freeTogether_44 ?_
          refine q_istore_n (pc := 47) (lv' := [(1, .int (if v1 < (0 : Int32) then (0 : Int32) else v1)), (2, .int (0 : Int32)), (0, .ref (gad G 31)), (3, .int v3)]) C dX6_freeTogether_47 rfl (by decide) rfl ?_
          refine q_iinc (pc := 48) (k := 3) (v := (v3 + (1 : Int32))) (lv' := [(3, .int (v3 + (1 : Int32))), (1, .int (if v1 < (0 : Int32) then (0 : Int32) else v1)), (2, .int (0 : Int32)), (0, .ref (gad G 31))]) C dX6_freeTogether_48 rfl rfl (by decide) rfl ?_
          refine q_goto (pc := 51) (tgt := 10) C dX6_freeTogether_51 (by decide) ?_
          refine q_lv (lv' := [(0, .ref (gad G 31)), (1, .int (if v1 < (0 : Int32) then (0 : Int32) else v1)), (2, .int (0 : Int32)), (3, .int (v3 + (1 : Int32)))]) [3, 1, 2, 0] rfl ?_
          exact ih _ _ _ _ _ hm kk
set_option maxRecDepth 100000 in
theorem c_Sc_freeTogether_31 {G : Gx} (hi : qinj (gad G)) {S : St}  {r9 : Int32} {S9 : St} (hm : m_Sc_freeTogether 31 S  = some (r9, S9)) : QMet G yX6_freeTogether cX6_freeTogether 4 (some .int) 4 87 [.ref (gad G 31)] S (some (.int r9)) S9 := by
  refine q_entry (by decide +kernel) rfl hi (by decide) ?_
  intro X C
  refine q_lv (lv' := [(0, .ref (gad G 31))]) [0] rfl ?_
  unfold m_Sc_freeTogether at hm
  refine q_iconst (pc := 0) (v := (0 : Int32)) C dX6_freeTogether_0 (by decide) ?_
  refine q_istore_n (pc := 1) (lv' := [(1, .int (0 : Int32)), (0, .ref (gad G 31))]) C dX6_freeTogether_1 rfl (by decide) rfl ?_
  refine q_iconst (pc := 2) (v := (0 : Int32)) C dX6_freeTogether_2 (by decide) ?_
  refine q_istore_n (pc := 3) (lv' := [(2, .int (0 : Int32)), (1, .int (0 : Int32)), (0, .ref (gad G 31))]) C dX6_freeTogether_3 rfl (by decide) rfl ?_
  refine q_aload_n (pc := 4) C dX6_freeTogether_4 rfl 2 rfl ?_
  obtain ⟨S1, h1, hm⟩ := o1_some hm
  refine q_callU (pc := 5) (k := 31) (As := []) (rest := []) (T := TX3) (owner := "Tessera$Scattered") (x := ⟨"Tessera$Scattered", "markTaken", "()V"⟩) C (c_Sc_markTaken_31 hi h1) (by decide) (ce_31 _ _ _) (ci := 3) rfl (Or.inl rfl) tw_323 tw_324 tw_326 tw_345 tw_78 tw_327 (by decide +kernel) (by decide) (by decide) rfl dX6_freeTogether_5 ?_
  refine q_iconst (pc := 8) (v := (0 : Int32)) C dX6_freeTogether_8 (by decide) ?_
  refine q_istore_n (pc := 9) (lv' := [(3, .int (0 : Int32)), (2, .int (0 : Int32)), (1, .int (0 : Int32)), (0, .ref (gad G 31))]) C dX6_freeTogether_9 rfl (by decide) rfl ?_
  refine q_lv (lv' := [(0, .ref (gad G 31)), (1, .int (0 : Int32)), (2, .int (0 : Int32)), (3, .int (0 : Int32))]) [3, 2, 1, 0] rfl ?_
  obtain ⟨y1, h2, hm⟩ := o1_some hm
  refine w_Sc_freeTogether_31_L10 hi C 200 _ _ _ _ _ h2 ?_
  refine q_iload_n (pc := 54) C dX6_freeTogether_54 rfl 0 rfl ?_
  cases hm
  exact q_iret (pc := 55) C dX6_freeTogether_55
set_option maxRecDepth 100000 in
theorem w_St_countHad_42_L4 {G : Gx} (hi : qinj (gad G)) {X : Cx} (C : QC G X cX7_countHad 3 RX7 1 21 (some .int)) {Q : State → Prop} : ∀ (n : Nat) (S : St) (v1 : Int32) (v2 : Int32) (x1 : Int32), m_St_countHad_L4 42 1 n S v1 v2 = some x1 → QW G X 3 Q 37 [(1, .int x1)] [] S → QW G X 3 Q 4 [(0, .ref (gad G 42)), (1, .int v1), (2, .int v2)] [] S := by
  intro n
  induction n with
  | zero =>
    intro S v1 v2 x1 hm kk
    rw [m_St_countHad_L4] at hm
    cases hm
  | succ n ih =>
    intro S v1 v2 x1 hm kk
    rw [m_St_countHad_L4] at hm
    refine q_iload_n (pc := 4) C dX7_countHad_4 rfl 2 rfl ?_
    refine q_aload_n (pc := 5) C dX7_countHad_5 rfl 0 rfl ?_
    refine q_get (pc := 6) (T := TX1) (v := .ref (gad G 1)) C (by decide) (ce_42 _ _ _) (ci := 1) rfl inlX1 (j := 1) (by decide) rfl tw_67 (Or.inl rfl) dX7_countHad_6 ?_
    refine q_get (pc := 9) (T := TX2) (v := .int (S 1 6)) C (by decide) (ce_1 _ _ _) (ci := 2) rfl inlX2 (j := 6) (by decide) rfl tw_252 (Or.inl rfl) dX7_countHad_9 ?_
    refine q_icmp_ge (pc := 12) (tgt := 37) C dX7_countHad_12 (by decide) (fun c1 => ?_) (fun c1 => ?_)
    · replace hm := hm_t c1 hm
      cases hm
      refine q_lv (lv' := [(1, .int v1)]) [1] rfl ?_
      exact kk
    · replace hm := hm_f c1 hm
      refine q_iload_n (pc := 15) C dX7_countHad_15 rfl 1 rfl ?_
      refine q_aload_n (pc := 16) C dX7_countHad_16 rfl 0 rfl ?_
      refine q_iload_n (pc := 17) C dX7_countHad_17 rfl 2 rfl ?_
      obtain ⟨r1, h1, hm⟩ := o1_some hm
      refine q_callU (pc := 18) (k := 42) (As := [.int v2]) (rest := [.int v1]) (T := TX1) (owner := "Tessera$Store") (x := ⟨"Tessera$Store", "has", "(I)Z"⟩) C (c_St_has_42 hi h1) (by decide) (ce_42 _ _ _) (ci := 1) rfl (Or.inl rfl) tw_253 tw_254 tw_256 tw_258 tw_62 tw_257 (by decide +kernel) (by decide) (by decide) rfl dX7_countHad_18 ?_
      refine q_if_eq (pc := 21) (tgt := 28) C dX7_countHad_21 (by decide) (fun c2 => ?_) (fun c2 => ?_)
      · replace hm := hm_t c2 hm
        refine q_iconst (pc := 28) (v := (0 : Int32)) C dX7_countHad_28 (by decide) ?_
        refine q_iadd (pc := 29) C dX7_countHad_29 ?_
        refine q_istore_n (pc := 30) (lv' := [(1, .int (v1 + (0 : Int32))), (0, .ref (gad G 42)), (2, .int v2)]) C dX7_countHad_30 rfl (by decide) rfl ?_
        refine q_iinc (pc := 31) (k := 2) (v := (v2 + (1 : Int32))) (lv' := [(2, .int (v2 + (1 : Int32))), (1, .int (v1 + (0 : Int32))), (0, .ref (gad G 42))]) C dX7_countHad_31 rfl rfl (by decide) rfl ?_
        refine q_goto (pc := 34) (tgt := 4) C dX7_countHad_34 (by decide) ?_
        refine q_lv (lv' := [(0, .ref (gad G 42)), (1, .int (v1 + (0 : Int32))), (2, .int (v2 + (1 : Int32)))]) [2, 1, 0] rfl ?_
        exact ih _ _ _ _ hm kk
      · replace hm := hm_f c2 hm
        refine q_iconst (pc := 24) (v := (1 : Int32)) C dX7_countHad_24 (by decide) ?_
        refine q_goto (pc := 25) (tgt := 29) C dX7_countHad_25 (by decide) ?_
        refine q_iadd (pc := 29) C dX7_countHad_29 ?_
        refine q_istore_n (pc := 30) (lv' := [(1, .int (v1 + (1 : Int32))), (0, .ref (gad G 42)), (2, .int v2)]) C dX7_countHad_30 rfl (by decide) rfl ?_
        refine q_iinc (pc := 31) (k := 2) (v := (v2 + (1 : Int32))) (lv' := [(2, .int (v2 + (1 : Int32))), (1, .int (v1 + (1 : Int32))), (0, .ref (gad G 42))]) C dX7_countHad_31 rfl rfl (by decide) rfl ?_
        refine q_goto (pc := 34) (tgt := 4) C dX7_countHad_34 (by decide) ?_
        refine q_lv (lv' := [(0, .ref (gad G 42)), (1, .int (v1 + (1 : Int32))), (2, .int (v2 + (1 : Int32)))]) [2, 1, 0] rfl ?_
        exact ih _ _ _ _ hm kk
set_option maxRecDepth 100000 in
theorem c_St_countHad_42 {G : Gx} (hi : qinj (gad G)) {S : St}  {r9 : Int32} (hm : m_St_countHad 42 1 S  = some r9) : QMet G yX7_countHad cX7_countHad 3 (some .int) 1 21 [.ref (gad G 42)] S (some (.int r9)) S := by
  refine q_entry (by decide +kernel) rfl hi (by decide) ?_
  intro X C
  refine q_lv (lv' := [(0, .ref (gad G 42))]) [0] rfl ?_
  unfold m_St_countHad at hm
  refine q_iconst (pc := 0) (v := (0 : Int32)) C dX7_countHad_0 (by decide) ?_
  refine q_istore_n (pc := 1) (lv' := [(1, .int (0 : Int32)), (0, .ref (gad G 42))]) C dX7_countHad_1 rfl (by decide) rfl ?_
  refine q_iconst (pc := 2) (v := (0 : Int32)) C dX7_countHad_2 (by decide) ?_
  refine q_istore_n (pc := 3) (lv' := [(2, .int (0 : Int32)), (1, .int (0 : Int32)), (0, .ref (gad G 42))]) C dX7_countHad_3 rfl (by decide) rfl ?_
  refine q_lv (lv' := [(0, .ref (gad G 42)), (1, .int (0 : Int32)), (2, .int (0 : Int32))]) [2, 1, 0] rfl ?_
  obtain ⟨y1, h1, hm⟩ := o1_some hm
  refine w_St_countHad_42_L4 hi C 200 _ _ _ _ h1 ?_
  refine q_iload_n (pc := 37) C dX7_countHad_37 rfl 0 rfl ?_
  cases hm
  exact q_iret (pc := 38) C dX7_countHad_38
set_option maxRecDepth 100000 in
theorem w_St_wordsHad_42_L4 {G : Gx} (hi : qinj (gad G)) {X : Cx} (C : QC G X cX7_wordsHad 3 RX7 1 21 (some .int)) {Q : State → Prop} : ∀ (n : Nat) (S : St) (v1 : Int32) (v2 : Int32) (x1 : Int32), m_St_wordsHad_L4 42 1 n S v1 v2 = some x1 → QW G X 3 Q 44 [(1, .int x1)] [] S → QW G X 3 Q 4 [(0, .ref (gad G 42)), (1, .int v1), (2, .int v2)] [] S := by
  intro n
  induction n with
  | zero =>
    intro S v1 v2 x1 hm kk
    rw [m_St_wordsHad_L4] at hm
    cases hm
  | succ n ih =>
    intro S v1 v2 x1 hm kk
    rw [m_St_wordsHad_L4] at hm
    refine q_iload_n (pc := 4) C dX7_wordsHad_4 rfl 2 rfl ?_
    refine q_aload_n (pc := 5) C dX7_wordsHad_5 rfl 0 rfl ?_
    refine q_get (pc := 6) (T := TX1) (v := .ref (gad G 1)) C (by decide) (ce_42 _ _ _) (ci := 1) rfl inlX1 (j := 1) (by decide) rfl tw_67 (Or.inl rfl) dX7_wordsHad_6 ?_
    refine q_get (pc := 9) (T := TX2) (v := .int (S 1 6)) C (by decide) (ce_1 _ _ _) (ci := 2) rfl inlX2 (j := 6) (by decide) rfl tw_252 (Or.inl rfl) dX7_wordsHad_9 ?_
    refine q_icmp_ge (pc := 12) (tgt := 44) C dX7_wordsHad_12 (by decide) (fun c1 => ?_) (fun c1 => ?_)
    · replace hm := hm_t c1 hm
      cases hm
      refine q_lv (lv' := [(1, .int v1)]) [1] rfl ?_
      exact kk
    · replace hm := hm_f c1 hm
      refine q_iload_n (pc := 15) C dX7_wordsHad_15 rfl 1 rfl ?_
      refine q_aload_n (pc := 16) C dX7_wordsHad_16 rfl 0 rfl ?_
      refine q_iload_n (pc := 17) C dX7_wordsHad_17 rfl 2 rfl ?_
      obtain ⟨r1, h1, hm⟩ := o1_some hm
      refine q_callU (pc := 18) (k := 42) (As := [.int v2]) (rest := [.int v1]) (T := TX1) (owner := "Tessera$Store") (x := ⟨"Tessera$Store", "has", "(I)Z"⟩) C (c_St_has_42 hi h1) (by decide) (ce_42 _ _ _) (ci := 1) rfl (Or.inl rfl) tw_253 tw_254 tw_256 tw_258 tw_62 tw_257 (by decide +kernel) (by decide) (by decide) rfl dX7_wordsHad_18 ?_
      refine q_if_eq (pc := 21) (tgt := 35) C dX7_wordsHad_21 (by decide) (fun c2 => ?_) (fun c2 => ?_)
      · replace hm := hm_t c2 hm
        refine q_iconst (pc := 35) (v := (0 : Int32)) C dX7_wordsHad_35 (by decide) ?_
        refine q_iadd (pc := 36) C dX7_wordsHad_36 ?_
        refine q_istore_n (pc := 37) (lv' := [(1, .int (v1 + (0 : Int32))), (0, .ref (gad G 42)), (2, .int v2)]) C dX7_wordsHad_37 rfl (by decide) rfl ?_
        refine q_iinc (pc := 38) (k := 2) (v := (v2 + (1 : Int32))) (lv' := [(2, .int (v2 + (1 : Int32))), (1, .int (v1 + (0 : Int32))), (0, .ref (gad G 42))]) C dX7_wordsHad_38 rfl rfl (by decide) rfl ?_
        refine q_goto (pc := 41) (tgt := 4) C dX7_wordsHad_41 (by decide) ?_
        refine q_lv (lv' := [(0, .ref (gad G 42)), (1, .int (v1 + (0 : Int32))), (2, .int (v2 + (1 : Int32)))]) [2, 1, 0] rfl ?_
        exact ih _ _ _ _ hm kk
      · replace hm := hm_f c2 hm
        refine q_aload_n (pc := 24) C dX7_wordsHad_24 rfl 0 rfl ?_
        refine q_get (pc := 25) (T := TX1) (v := .ref (gad G 1)) C (by decide) (ce_42 _ _ _) (ci := 1) rfl inlX1 (j := 1) (by decide) rfl tw_67 (Or.inl rfl) dX7_wordsHad_25 ?_
        refine q_iload_n (pc := 28) C dX7_wordsHad_28 rfl 2 rfl ?_
        obtain ⟨r2, h2, hm⟩ := o1_some hm
        refine q_callV (pc := 29) (k := 1) (As := [.int v2]) (rest := [.int v1]) (T := TX2) C (c_Gr_wordsOf hi h2) (by decide) (ce_1 _ _ _) (ci := 2) rfl tw_416 tw_229 tw_230 tw_13 tw_231 (by decide +kernel) (by decide) (by decide) rfl dX7_wordsHad_29 ?_
        refine q_goto (pc := 32) (tgt := 36) C dX7_wordsHad_32 (by decide) ?_
        refine q_iadd (pc := 36) C dX7_wordsHad_36 ?_
        refine q_istore_n (pc := 37) (lv' := [(1, .int (v1 + r2)), (0, .ref (gad G 42)), (2, .int v2)]) C dX7_wordsHad_37 rfl (by decide) rfl ?_
        refine q_iinc (pc := 38) (k := 2) (v := (v2 + (1 : Int32))) (lv' := [(2, .int (v2 + (1 : Int32))), (1, .int (v1 + r2)), (0, .ref (gad G 42))]) C dX7_wordsHad_38 rfl rfl (by decide) rfl ?_
        refine q_goto (pc := 41) (tgt := 4) C dX7_wordsHad_41 (by decide) ?_
        refine q_lv (lv' := [(0, .ref (gad G 42)), (1, .int (v1 + r2)), (2, .int (v2 + (1 : Int32)))]) [2, 1, 0] rfl ?_
        exact ih _ _ _ _ hm kk
set_option maxRecDepth 100000 in
theorem c_St_wordsHad_42 {G : Gx} (hi : qinj (gad G)) {S : St}  {r9 : Int32} (hm : m_St_wordsHad 42 1 S  = some r9) : QMet G yX7_wordsHad cX7_wordsHad 3 (some .int) 1 21 [.ref (gad G 42)] S (some (.int r9)) S := by
  refine q_entry (by decide +kernel) rfl hi (by decide) ?_
  intro X C
  refine q_lv (lv' := [(0, .ref (gad G 42))]) [0] rfl ?_
  unfold m_St_wordsHad at hm
  refine q_iconst (pc := 0) (v := (0 : Int32)) C dX7_wordsHad_0 (by decide) ?_
  refine q_istore_n (pc := 1) (lv' := [(1, .int (0 : Int32)), (0, .ref (gad G 42))]) C dX7_wordsHad_1 rfl (by decide) rfl ?_
  refine q_iconst (pc := 2) (v := (0 : Int32)) C dX7_wordsHad_2 (by decide) ?_
  refine q_istore_n (pc := 3) (lv' := [(2, .int (0 : Int32)), (1, .int (0 : Int32)), (0, .ref (gad G 42))]) C dX7_wordsHad_3 rfl (by decide) rfl ?_
  refine q_lv (lv' := [(0, .ref (gad G 42)), (1, .int (0 : Int32)), (2, .int (0 : Int32))]) [2, 1, 0] rfl ?_
  obtain ⟨y1, h1, hm⟩ := o1_some hm
  refine w_St_wordsHad_42_L4 hi C 200 _ _ _ _ h1 ?_
  refine q_iload_n (pc := 44) C dX7_wordsHad_44 rfl 0 rfl ?_
  cases hm
  exact q_iret (pc := 45) C dX7_wordsHad_45
set_option maxRecDepth 100000 in
theorem w_St_countUnreached_42_L4 {G : Gx} (hi : qinj (gad G)) {X : Cx} (C : QC G X cX7_countUnreached 3 RX7 1 21 (some .int)) {Q : State → Prop} : ∀ (n : Nat) (S : St) (v1 : Int32) (v2 : Int32) (x1 : Int32), m_St_countUnreached_L4 42 1 n S v1 v2 = some x1 → QW G X 3 Q 48 [(1, .int x1)] [] S → QW G X 3 Q 4 [(0, .ref (gad G 42)), (1, .int v1), (2, .int v2)] [] S := by
  intro n
  induction n with
  | zero =>
    intro S v1 v2 x1 hm kk
    rw [m_St_countUnreached_L4] at hm
    cases hm
  | succ n ih =>
    intro S v1 v2 x1 hm kk
    rw [m_St_countUnreached_L4] at hm
    refine q_iload_n (pc := 4) C dX7_countUnreached_4 rfl 2 rfl ?_
    refine q_aload_n (pc := 5) C dX7_countUnreached_5 rfl 0 rfl ?_
    refine q_get (pc := 6) (T := TX1) (v := .ref (gad G 1)) C (by decide) (ce_42 _ _ _) (ci := 1) rfl inlX1 (j := 1) (by decide) rfl tw_67 (Or.inl rfl) dX7_countUnreached_6 ?_
    refine q_get (pc := 9) (T := TX2) (v := .int (S 1 6)) C (by decide) (ce_1 _ _ _) (ci := 2) rfl inlX2 (j := 6) (by decide) rfl tw_252 (Or.inl rfl) dX7_countUnreached_9 ?_
    refine q_icmp_ge (pc := 12) (tgt := 48) C dX7_countUnreached_12 (by decide) (fun c1 => ?_) (fun c1 => ?_)
    · replace hm := hm_t c1 hm
      cases hm
      refine q_lv (lv' := [(1, .int v1)]) [1] rfl ?_
      exact kk
    · replace hm := hm_f c1 hm
      refine q_iload_n (pc := 15) C dX7_countUnreached_15 rfl 1 rfl ?_
      refine q_aload_n (pc := 16) C dX7_countUnreached_16 rfl 0 rfl ?_
      refine q_iload_n (pc := 17) C dX7_countUnreached_17 rfl 2 rfl ?_
      obtain ⟨r1, h1, hm⟩ := o1_some hm
      refine q_callU (pc := 18) (k := 42) (As := [.int v2]) (rest := [.int v1]) (T := TX1) (owner := "Tessera$Store") (x := ⟨"Tessera$Store", "has", "(I)Z"⟩) C (c_St_has_42 hi h1) (by decide) (ce_42 _ _ _) (ci := 1) rfl (Or.inl rfl) tw_253 tw_254 tw_256 tw_258 tw_62 tw_257 (by decide +kernel) (by decide) (by decide) rfl dX7_countUnreached_18 ?_
      refine q_if_eq (pc := 21) (tgt := 39) C dX7_countUnreached_21 (by decide) (fun c2 => ?_) (fun c2 => ?_)
      · replace hm := hm_t c2 hm
        refine q_iconst (pc := 39) (v := (0 : Int32)) C dX7_countUnreached_39 (by decide) ?_
        refine q_iadd (pc := 40) C dX7_countUnreached_40 ?_
        refine q_istore_n (pc := 41) (lv' := [(1, .int (v1 + (0 : Int32))), (0, .ref (gad G 42)), (2, .int v2)]) C dX7_countUnreached_41 rfl (by decide) rfl ?_
        refine q_iinc (pc := 42) (k := 2) (v := (v2 + (1 : Int32))) (lv' := [(2, .int (v2 + (1 : Int32))), (1, .int (v1 + (0 : Int32))), (0, .ref (gad G 42))]) C dX7_countUnreached_42 rfl rfl (by decide) rfl ?_
        refine q_goto (pc := 45) (tgt := 4) C dX7_countUnreached_45 (by decide) ?_
        refine q_lv (lv' := [(0, .ref (gad G 42)), (1, .int (v1 + (0 : Int32))), (2, .int (v2 + (1 : Int32)))]) [2, 1, 0] rfl ?_
        exact ih _ _ _ _ hm kk
      · replace hm := hm_f c2 hm
        refine q_aload_n (pc := 24) C dX7_countUnreached_24 rfl 0 rfl ?_
        refine q_get (pc := 25) (T := TX1) (v := .ref (gad G 1)) C (by decide) (ce_42 _ _ _) (ci := 1) rfl inlX1 (j := 1) (by decide) rfl tw_67 (Or.inl rfl) dX7_countUnreached_25 ?_
        refine q_iload_n (pc := 28) C dX7_countUnreached_28 rfl 2 rfl ?_
        obtain ⟨r2, h2, hm⟩ := o1_some hm
        refine q_callV (pc := 29) (k := 1) (As := [.int v2]) (rest := [.int v1]) (T := TX2) C (c_Gr_isReached hi h2) (by decide) (ce_1 _ _ _) (ci := 2) rfl tw_525 tw_526 tw_527 tw_13 tw_528 (by decide +kernel) (by decide) (by decide) rfl dX7_countUnreached_29 ?_
        refine q_if_ne (pc := 32) (tgt := 39) C dX7_countUnreached_32 (by decide) (fun c3 => ?_) (fun c3 => ?_)
        · replace hm := hm_f c3 hm
          refine q_iconst (pc := 39) (v := (0 : Int32)) C dX7_countUnreached_39 (by decide) ?_
          refine q_iadd (pc := 40) C dX7_countUnreached_40 ?_
          refine q_istore_n (pc := 41) (lv' := [(1, .int (v1 + (0 : Int32))), (0, .ref (gad G 42)), (2, .int v2)]) C dX7_countUnreached_41 rfl (by decide) rfl ?_
          refine q_iinc (pc := 42) (k := 2) (v := (v2 + (1 : Int32))) (lv' := [(2, .int (v2 + (1 : Int32))), (1, .int (v1 + (0 : Int32))), (0, .ref (gad G 42))]) C dX7_countUnreached_42 rfl rfl (by decide) rfl ?_
          refine q_goto (pc := 45) (tgt := 4) C dX7_countUnreached_45 (by decide) ?_
          refine q_lv (lv' := [(0, .ref (gad G 42)), (1, .int (v1 + (0 : Int32))), (2, .int (v2 + (1 : Int32)))]) [2, 1, 0] rfl ?_
          exact ih _ _ _ _ hm kk
        · replace hm := hm_t c3 hm
          refine q_iconst (pc := 35) (v := (1 : Int32)) C dX7_countUnreached_35 (by decide) ?_
          refine q_goto (pc := 36) (tgt := 40) C dX7_countUnreached_36 (by decide) ?_
          refine q_iadd (pc := 40) C dX7_countUnreached_40 ?_
          refine q_istore_n (pc := 41) (lv' := [(1, .int (v1 + (1 : Int32))), (0, .ref (gad G 42)), (2, .int v2)]) C dX7_countUnreached_41 rfl (by decide) rfl ?_
          refine q_iinc (pc := 42) (k := 2) (v := (v2 + (1 : Int32))) (lv' := [(2, .int (v2 + (1 : Int32))), (1, .int (v1 + (1 : Int32))), (0, .ref (gad G 42))]) C dX7_countUnreached_42 rfl rfl (by decide) rfl ?_
          refine q_goto (pc := 45) (tgt := 4) C dX7_countUnreached_45 (by decide) ?_
          refine q_lv (lv' := [(0, .ref (gad G 42)), (1, .int (v1 + (1 : Int32))), (2, .int (v2 + (1 : Int32)))]) [2, 1, 0] rfl ?_
          exact ih _ _ _ _ hm kk
set_option maxRecDepth 100000 in
theorem c_St_countUnreached_42 {G : Gx} (hi : qinj (gad G)) {S : St}  {r9 : Int32} (hm : m_St_countUnreached 42 1 S  = some r9) : QMet G yX7_countUnreached cX7_countUnreached 3 (some .int) 1 21 [.ref (gad G 42)] S (some (.int r9)) S := by
  refine q_entry (by decide +kernel) rfl hi (by decide) ?_
  intro X C
  refine q_lv (lv' := [(0, .ref (gad G 42))]) [0] rfl ?_
  unfold m_St_countUnreached at hm
  refine q_iconst (pc := 0) (v := (0 : Int32)) C dX7_countUnreached_0 (by decide) ?_
  refine q_istore_n (pc := 1) (lv' := [(1, .int (0 : Int32)), (0, .ref (gad G 42))]) C dX7_countUnreached_1 rfl (by decide) rfl ?_
  refine q_iconst (pc := 2) (v := (0 : Int32)) C dX7_countUnreached_2 (by decide) ?_
  refine q_istore_n (pc := 3) (lv' := [(2, .int (0 : Int32)), (1, .int (0 : Int32)), (0, .ref (gad G 42))]) C dX7_countUnreached_3 rfl (by decide) rfl ?_
  refine q_lv (lv' := [(0, .ref (gad G 42)), (1, .int (0 : Int32)), (2, .int (0 : Int32))]) [2, 1, 0] rfl ?_
  obtain ⟨y1, h1, hm⟩ := o1_some hm
  refine w_St_countUnreached_42_L4 hi C 200 _ _ _ _ h1 ?_
  refine q_iload_n (pc := 48) C dX7_countUnreached_48 rfl 0 rfl ?_
  cases hm
  exact q_iret (pc := 49) C dX7_countUnreached_49
set_option maxRecDepth 100000 in
theorem w_Sc_freeTogether_42_L10 {G : Gx} (hi : qinj (gad G)) {X : Cx} (C : QC G X cX6_freeTogether 4 RX6 4 87 (some .int)) {Q : State → Prop} : ∀ (n : Nat) (S : St) (v1 : Int32) (v2 : Int32) (v3 : Int32) (x1 : Int32), m_Sc_freeTogether_L10 42 n S v1 v2 v3 = some x1 → QW G X 4 Q 54 [(1, .int x1)] [] S → QW G X 4 Q 10 [(0, .ref (gad G 42)), (1, .int v1), (2, .int v2), (3, .int v3)] [] S := by
  intro n
  induction n with
  | zero =>
    intro S v1 v2 v3 x1 hm kk
    rw [m_Sc_freeTogether_L10] at hm
    cases hm
  | succ n ih =>
    intro S v1 v2 v3 x1 hm kk
    rw [m_Sc_freeTogether_L10] at hm
    refine q_iload_n (pc := 10) C dX6_freeTogether_10 rfl 3 rfl ?_
    refine q_aload_n (pc := 11) C dX6_freeTogether_11 rfl 0 rfl ?_
    refine q_get (pc := 12) (T := TX1) (v := .int (S 42 2)) C (by decide) (ce_42 _ _ _) (ci := 1) rfl inlX1 (j := 2) (by decide) rfl tw_320 (Or.inr tw_321) dX6_freeTogether_12 ?_
    refine q_icmp_ge (pc := 15) (tgt := 54) C dX6_freeTogether_15 (by decide) (fun c1 => ?_) (fun c1 => ?_)
    · replace hm := hm_t c1 hm
      cases hm
      refine q_lv (lv' := [(1, .int v1)]) [1] rfl ?_
      exact kk
    · replace hm := hm_f c1 hm
      refine q_iload_n (pc := 18) C dX6_freeTogether_18 rfl 3 rfl ?_
      refine q_sipush (pc := 19) (v := (160 : Int32)) C dX6_freeTogether_19 (by decide) ?_
      refine q_icmp_ge (pc := 22) (tgt := 54) C dX6_freeTogether_22 (by decide) (fun c2 => ?_) (fun c2 => ?_)
      · replace hm := hm_t c2 hm
        cases hm
        refine q_lv (lv' := [(1, .int v1)]) [1] rfl ?_
        exact kk
      · replace hm := hm_f c2 hm
        refine q_aload_n (pc := 25) C dX6_freeTogether_25 rfl 0 rfl ?_
        refine q_get (pc := 26) (T := TX1) (v := .ref (gad G 45)) C (by decide) (ce_42 _ _ _) (ci := 1) rfl inlX1 (j := 0) (by decide) rfl tw_80 (Or.inl rfl) dX6_freeTogether_26 ?_
        refine q_iload_n (pc := 29) C dX6_freeTogether_29 rfl 3 rfl ?_
        obtain ⟨b1, hm⟩ := oi_some hm
        refine q_zald (pc := 30) C (by decide) (ce_45 _ _ _) (ty_45 _) b1 dX6_freeTogether_30 ?_
        refine q_if_eq (pc := 31) (tgt := 38) C dX6_freeTogether_31 (by decide) (fun c3 => ?_) (fun c3 => ?_)
        · replace hm := hm_t c3 hm
          refine q_iload_n (pc := 38) C dX6_freeTogether_38 rfl 2 rfl ?_
          refine q_iconst (pc := 39) (v := (1 : Int32)) C dX6_freeTogether_39 (by decide) ?_
          refine q_iadd (pc := 40) C dX6_freeTogether_40 ?_
          refine q_istore_n (pc := 41) (lv' := [(2, .int (v2 + (1 : Int32))), (0, .ref (gad G 42)), (1, .int v1), (3, .int v3)]) C dX6_freeTogether_41 rfl (by decide) rfl ?_
          refine q_iload_n (pc := 42) C dX6_freeTogether_42 rfl 2 rfl ?_
          refine q_iload_n (pc := 43) C dX6_freeTogether_43 rfl 0 rfl ?_
          refine q_max (pc := 44) C tw_746 tw_643 tw_644 tw_645 (by decide) (by decide) dX6_freeTogether_44 ?_
          refine q_istore_n (pc := 47) (lv' := [(1, .int (if v1 < (v2 + (1 : Int32)) then (v2 + (1 : Int32)) else v1)), (2, .int (v2 + (1 : Int32))), (0, .ref (gad G 42)), (3, .int v3)]) C dX6_freeTogether_47 rfl (by decide) rfl ?_
          refine q_iinc (pc := 48) (k := 3) (v := (v3 + (1 : Int32))) (lv' := [(3, .int (v3 + (1 : Int32))), (1, .int (if v1 < (v2 + (1 : Int32)) then (v2 + (1 : Int32)) else v1)), (2, .int (v2 + (1 : Int32))), (0, .ref (gad G 42))]) C dX6_freeTogether_48 rfl rfl (by decide) rfl ?_
          refine q_goto (pc := 51) (tgt := 10) C dX6_freeTogether_51 (by decide) ?_
          refine q_lv (lv' := [(0, .ref (gad G 42)), (1, .int (if v1 < (v2 + (1 : Int32)) then (v2 + (1 : Int32)) else v1)), (2, .int (v2 + (1 : Int32))), (3, .int (v3 + (1 : Int32)))]) [3, 1, 2, 0] rfl ?_
          exact ih _ _ _ _ _ hm kk
        · replace hm := hm_f c3 hm
          refine q_iconst (pc := 34) (v := (0 : Int32)) C dX6_freeTogether_34 (by decide) ?_
          refine q_goto (pc := 35) (tgt := 41) C dX6_freeTogether_35 (by decide) ?_
          refine q_istore_n (pc := 41) (lv' := [(2, .int (0 : Int32)), (0, .ref (gad G 42)), (1, .int v1), (3, .int v3)]) C dX6_freeTogether_41 rfl (by decide) rfl ?_
          refine q_iload_n (pc := 42) C dX6_freeTogether_42 rfl 2 rfl ?_
          refine q_iload_n (pc := 43) C dX6_freeTogether_43 rfl 0 rfl ?_
          refine q_max (pc := 44) C tw_746 tw_643 tw_644 tw_645 (by decide) (by decide) dX6_freeTogether_44 ?_
          refine q_istore_n (pc := 47) (lv' := [(1, .int (if v1 < (0 : Int32) then (0 : Int32) else v1)), (2, .int (0 : Int32)), (0, .ref (gad G 42)), (3, .int v3)]) C dX6_freeTogether_47 rfl (by decide) rfl ?_
          refine q_iinc (pc := 48) (k := 3) (v := (v3 + (1 : Int32))) (lv' := [(3, .int (v3 + (1 : Int32))), (1, .int (if v1 < (0 : Int32) then (0 : Int32) else v1)), (2, .int (0 : Int32)), (0, .ref (gad G 42))]) C dX6_freeTogether_48 rfl rfl (by decide) rfl ?_
          refine q_goto (pc := 51) (tgt := 10) C dX6_freeTogether_51 (by decide) ?_
          refine q_lv (lv' := [(0, .ref (gad G 42)), (1, .int (if v1 < (0 : Int32) then (0 : Int32) else v1)), (2, .int (0 : Int32)), (3, .int (v3 + (1 : Int32)))]) [3, 1, 2, 0] rfl ?_
          exact ih _ _ _ _ _ hm kk
set_option maxRecDepth 100000 in
theorem c_Sc_freeTogether_42 {G : Gx} (hi : qinj (gad G)) {S : St}  {r9 : Int32} {S9 : St} (hm : m_Sc_freeTogether 42 S  = some (r9, S9)) : QMet G yX6_freeTogether cX6_freeTogether 4 (some .int) 4 87 [.ref (gad G 42)] S (some (.int r9)) S9 := by
  refine q_entry (by decide +kernel) rfl hi (by decide) ?_
  intro X C
  refine q_lv (lv' := [(0, .ref (gad G 42))]) [0] rfl ?_
  unfold m_Sc_freeTogether at hm
  refine q_iconst (pc := 0) (v := (0 : Int32)) C dX6_freeTogether_0 (by decide) ?_
  refine q_istore_n (pc := 1) (lv' := [(1, .int (0 : Int32)), (0, .ref (gad G 42))]) C dX6_freeTogether_1 rfl (by decide) rfl ?_
  refine q_iconst (pc := 2) (v := (0 : Int32)) C dX6_freeTogether_2 (by decide) ?_
  refine q_istore_n (pc := 3) (lv' := [(2, .int (0 : Int32)), (1, .int (0 : Int32)), (0, .ref (gad G 42))]) C dX6_freeTogether_3 rfl (by decide) rfl ?_
  refine q_aload_n (pc := 4) C dX6_freeTogether_4 rfl 2 rfl ?_
  obtain ⟨S1, h1, hm⟩ := o1_some hm
  refine q_callU (pc := 5) (k := 42) (As := []) (rest := []) (T := TX1) (owner := "Tessera$Scattered") (x := ⟨"Tessera$Scattered", "markTaken", "()V"⟩) C (c_Sc_markTaken_42 hi h1) (by decide) (ce_42 _ _ _) (ci := 1) rfl (Or.inl rfl) tw_323 tw_324 tw_326 tw_325 tw_78 tw_327 (by decide +kernel) (by decide) (by decide) rfl dX6_freeTogether_5 ?_
  refine q_iconst (pc := 8) (v := (0 : Int32)) C dX6_freeTogether_8 (by decide) ?_
  refine q_istore_n (pc := 9) (lv' := [(3, .int (0 : Int32)), (2, .int (0 : Int32)), (1, .int (0 : Int32)), (0, .ref (gad G 42))]) C dX6_freeTogether_9 rfl (by decide) rfl ?_
  refine q_lv (lv' := [(0, .ref (gad G 42)), (1, .int (0 : Int32)), (2, .int (0 : Int32)), (3, .int (0 : Int32))]) [3, 2, 1, 0] rfl ?_
  obtain ⟨y1, h2, hm⟩ := o1_some hm
  refine w_Sc_freeTogether_42_L10 hi C 200 _ _ _ _ _ h2 ?_
  refine q_iload_n (pc := 54) C dX6_freeTogether_54 rfl 0 rfl ?_
  cases hm
  exact q_iret (pc := 55) C dX6_freeTogether_55
set_option maxRecDepth 100000 in
theorem c_Te_told {G : Gx} (hi : qinj (gad G)) {S : St} {a1 : Int32} {a2 : Int32} {r9 : Int32} {S9 : St} (hm : m_Te_told S a1 a2 = some (r9, S9)) : QMet G yX8_told cX8_told 4 (some .int) 5 110 [.ref (gad G 0), .int a1, .int a2] S (some (.int r9)) S9 := by
  refine q_entry (by decide +kernel) rfl hi (by decide) ?_
  intro X C
  refine q_lv (lv' := [(0, .ref (gad G 0)), (1, .int a1), (2, .int a2)]) [0, 1, 2] rfl ?_
  unfold m_Te_told at hm
  refine q_aload_n (pc := 0) C dX8_told_0 rfl 0 rfl ?_
  refine q_iload_n (pc := 1) C dX8_told_1 rfl 1 rfl ?_
  obtain ⟨k1, h1, hm⟩ := o1_some hm
  refine q_callV (pc := 2) (k := 0) (As := [.int a1]) (rest := []) (T := TX8) C (c_Te_storeOf hi h1) (by decide) (ce_0 _ _ _) (ci := 6) rfl tw_716 tw_717 tw_718 tw_2 tw_719 (by decide +kernel) (by decide) (by decide) rfl dX8_told_2 ?_
  by_cases c33 : k1 = 12
  · replace hm := hm_t c33 hm
    subst c33
    refine q_astore_n (pc := 5) (lv' := [(3, .ref (gad G 12)), (0, .ref (gad G 0)), (1, .int a1), (2, .int a2)]) C dX8_told_5 rfl (by decide) rfl ?_
    refine q_iload_n (pc := 6) C dX8_told_6 rfl 3 rfl ?_
    refine q_bipush (pc := 7) (v := (7 : Int32)) C dX8_told_7 (by decide) ?_
    obtain ⟨u1, h2, hm⟩ := o1_some hm
    refine q_callS (pc := 9) (As := [.int a2, .int (7 : Int32)]) (rest := []) C (c_Te_checkWhat hi h2) tw_667 tw_668 tw_2 tw_669 (by decide +kernel) (by decide) (by decide) rfl dX8_told_9 ?_
    refine q_iload_n (pc := 12) C dX8_told_12 rfl 3 rfl ?_
    by_cases c1 : a2 = (0 : Int32)
    · replace hm := hm_t c1 hm
      refine q_tableIn (pc := 13) (tgt := 56) C dX8_told_13 (by rw [c1]; decide) (by rw [c1]; decide) (by rw [c1]; rfl) (by decide) ?_
      refine q_aload_n (pc := 56) C dX8_told_56 rfl 0 rfl ?_
      obtain ⟨r1, h3, hm⟩ := o1_some hm
      refine q_callU (pc := 57) (k := 12) (As := []) (rest := []) (T := TX0) (owner := "Tessera$Store") (x := ⟨"Tessera$Store", "countHad", "()I"⟩) C (c_St_countHad_12 hi h3) (by decide) (ce_12 _ _ _) (ci := 0) rfl (Or.inl rfl) tw_720 tw_721 tw_250 tw_722 tw_62 tw_251 (by decide +kernel) (by decide) (by decide) rfl dX8_told_57 ?_
      cases hm
      exact q_iret (pc := 60) C dX8_told_60
    replace hm := hm_f c1 hm
    by_cases c2 : a2 = (1 : Int32)
    · replace hm := hm_t c2 hm
      refine q_tableIn (pc := 13) (tgt := 61) C dX8_told_13 (by rw [c2]; decide) (by rw [c2]; decide) (by rw [c2]; rfl) (by decide) ?_
      refine q_aload_n (pc := 61) C dX8_told_61 rfl 0 rfl ?_
      obtain ⟨r2, h4, hm⟩ := o1_some hm
      refine q_callU (pc := 62) (k := 12) (As := []) (rest := []) (T := TX0) (owner := "Tessera$Store") (x := ⟨"Tessera$Store", "wordsHad", "()I"⟩) C (c_St_wordsHad_12 hi h4) (by decide) (ce_12 _ _ _) (ci := 0) rfl (Or.inl rfl) tw_726 tw_727 tw_414 tw_728 tw_62 tw_415 (by decide +kernel) (by decide) (by decide) rfl dX8_told_62 ?_
      cases hm
      exact q_iret (pc := 65) C dX8_told_65
    replace hm := hm_f c2 hm
    by_cases c3 : a2 = (2 : Int32)
    · replace hm := hm_t c3 hm
      refine q_tableIn (pc := 13) (tgt := 66) C dX8_told_13 (by rw [c3]; decide) (by rw [c3]; decide) (by rw [c3]; rfl) (by decide) ?_
      refine q_aload_n (pc := 66) C dX8_told_66 rfl 0 rfl ?_
      obtain ⟨r3, h5, hm⟩ := o1_some hm
      refine q_callU (pc := 67) (k := 12) (As := []) (rest := []) (T := TX0) (owner := "Tessera$Store") (x := ⟨"Tessera$Store", "countUnreached", "()I"⟩) C (c_St_countUnreached_12 hi h5) (by decide) (ce_12 _ _ _) (ci := 0) rfl (Or.inl rfl) tw_732 tw_733 tw_735 tw_734 tw_62 tw_736 (by decide +kernel) (by decide) (by decide) rfl dX8_told_67 ?_
      cases hm
      exact q_iret (pc := 70) C dX8_told_70
    replace hm := hm_f c3 hm
    by_cases c4 : a2 = (3 : Int32)
    · replace hm := hm_t c4 hm
      refine q_tableIn (pc := 13) (tgt := 71) C dX8_told_13 (by rw [c4]; decide) (by rw [c4]; decide) (by rw [c4]; rfl) (by decide) ?_
      refine q_aload_n (pc := 71) C dX8_told_71 rfl 0 rfl ?_
      refine q_get (pc := 72) (T := TX0) (v := .int (S 12 2)) C (by decide) (ce_12 _ _ _) (ci := 0) rfl inlX0 (j := 2) (by decide) rfl tw_713 (Or.inl rfl) dX8_told_72 ?_
      cases hm
      exact q_iret (pc := 75) C dX8_told_75
    replace hm := hm_f c4 hm
    by_cases c5 : a2 = (4 : Int32)
    · replace hm := hm_t c5 hm
      refine q_tableIn (pc := 13) (tgt := 76) C dX8_told_13 (by rw [c5]; decide) (by rw [c5]; decide) (by rw [c5]; rfl) (by decide) ?_
      refine q_aload_n (pc := 76) C dX8_told_76 rfl 0 rfl ?_
      refine q_get (pc := 77) (T := TX0) (v := .int (S 12 3)) C (by decide) (ce_12 _ _ _) (ci := 0) rfl inlX0 (j := 3) (by decide) rfl tw_714 (Or.inl rfl) dX8_told_77 ?_
      cases hm
      exact q_iret (pc := 80) C dX8_told_80
    replace hm := hm_f c5 hm
    by_cases c6 : a2 = (5 : Int32)
    · replace hm := hm_t c6 hm
      refine q_tableIn (pc := 13) (tgt := 81) C dX8_told_13 (by rw [c6]; decide) (by rw [c6]; decide) (by rw [c6]; rfl) (by decide) ?_
      refine q_aload_n (pc := 81) C dX8_told_81 rfl 0 rfl ?_
      refine q_get (pc := 82) (T := TX0) (v := .int (S 12 5)) C (by decide) (ce_12 _ _ _) (ci := 0) rfl inlX0 (j := 5) (by decide) rfl tw_199 (Or.inl rfl) dX8_told_82 ?_
      refine q_if_eq (pc := 85) (tgt := 92) C dX8_told_85 (by decide) (fun c7 => ?_) (fun c7 => ?_)
      · replace hm := hm_t c7 hm
        refine q_aload_n (pc := 92) C dX8_told_92 rfl 0 rfl ?_
        obtain ⟨r4, h6, hm⟩ := o1_some hm
        refine q_callU (pc := 93) (k := 12) (As := []) (rest := []) (T := TX0) (owner := "Tessera$Store") (x := ⟨"Tessera$Store", "freeTogether", "()I"⟩) C (c_Cop_freeTogether hi h6) (by decide) (ce_12 _ _ _) (ci := 0) rfl (Or.inr (Or.inl (by decide))) tw_740 tw_741 tw_233 tw_742 tw_26 tw_235 (by decide +kernel) (by decide) (by decide) rfl dX8_told_93 ?_
        cases hm
        exact q_iret (pc := 96) C dX8_told_96
      · replace hm := hm_f c7 hm
        refine q_iconst (pc := 88) (v := (0 : Int32)) C dX8_told_88 (by decide) ?_
        refine q_goto (pc := 89) (tgt := 96) C dX8_told_89 (by decide) ?_
        cases hm
        exact q_iret (pc := 96) C dX8_told_96
    replace hm := hm_f c6 hm
    by_cases c8 : a2 = (6 : Int32)
    · replace hm := hm_t c8 hm
      refine q_tableIn (pc := 13) (tgt := 97) C dX8_told_13 (by rw [c8]; decide) (by rw [c8]; decide) (by rw [c8]; rfl) (by decide) ?_
      refine q_aload_n (pc := 97) C dX8_told_97 rfl 0 rfl ?_
      refine q_get (pc := 98) (T := TX0) (v := .int (S 12 4)) C (by decide) (ce_12 _ _ _) (ci := 0) rfl inlX0 (j := 4) (by decide) rfl tw_715 (Or.inl rfl) dX8_told_98 ?_
      cases hm
      exact q_iret (pc := 101) C dX8_told_101
    replace hm := hm_f c8 hm
    refine q_tableOut (pc := 13) (tgt := 102) C dX8_told_13 (q_out 6 (by decide) [(0 : Int32), (1 : Int32), (2 : Int32), (3 : Int32), (4 : Int32), (5 : Int32), (6 : Int32)] (by decide) (by simp [c1, c2, c3, c4, c5, c6, c8])) (by decide) ?_
    refine q_aload_n (pc := 102) C dX8_told_102 rfl 0 rfl ?_
    refine q_get (pc := 103) (T := TX0) (v := .int (S 12 5)) C (by decide) (ce_12 _ _ _) (ci := 0) rfl inlX0 (j := 5) (by decide) rfl tw_199 (Or.inl rfl) dX8_told_103 ?_
    obtain ⟨r5, h7, hm⟩ := o1_some hm
    refine q_callS (pc := 106) (As := [.int (S 12 5)]) (rest := []) C (c_Te_asNumber hi h7) tw_671 tw_672 tw_2 tw_673 (by decide +kernel) (by decide) (by decide) rfl dX8_told_106 ?_
    cases hm
    exact q_iret (pc := 109) C dX8_told_109
  replace hm := hm_f c33 hm
  by_cases c34 : k1 = 18
  · replace hm := hm_t c34 hm
    subst c34
    refine q_astore_n (pc := 5) (lv' := [(3, .ref (gad G 18)), (0, .ref (gad G 0)), (1, .int a1), (2, .int a2)]) C dX8_told_5 rfl (by decide) rfl ?_
    refine q_iload_n (pc := 6) C dX8_told_6 rfl 3 rfl ?_
    refine q_bipush (pc := 7) (v := (7 : Int32)) C dX8_told_7 (by decide) ?_
    obtain ⟨u2, h8, hm⟩ := o1_some hm
    refine q_callS (pc := 9) (As := [.int a2, .int (7 : Int32)]) (rest := []) C (c_Te_checkWhat hi h8) tw_667 tw_668 tw_2 tw_669 (by decide +kernel) (by decide) (by decide) rfl dX8_told_9 ?_
    refine q_iload_n (pc := 12) C dX8_told_12 rfl 3 rfl ?_
    by_cases c9 : a2 = (0 : Int32)
    · replace hm := hm_t c9 hm
      refine q_tableIn (pc := 13) (tgt := 56) C dX8_told_13 (by rw [c9]; decide) (by rw [c9]; decide) (by rw [c9]; rfl) (by decide) ?_
      refine q_aload_n (pc := 56) C dX8_told_56 rfl 0 rfl ?_
      obtain ⟨r6, h9, hm⟩ := o1_some hm
      refine q_callU (pc := 57) (k := 18) (As := []) (rest := []) (T := TX4) (owner := "Tessera$Store") (x := ⟨"Tessera$Store", "countHad", "()I"⟩) C (c_St_countHad_18 hi h9) (by decide) (ce_18 _ _ _) (ci := 4) rfl (Or.inl rfl) tw_720 tw_721 tw_250 tw_725 tw_62 tw_251 (by decide +kernel) (by decide) (by decide) rfl dX8_told_57 ?_
      cases hm
      exact q_iret (pc := 60) C dX8_told_60
    replace hm := hm_f c9 hm
    by_cases c10 : a2 = (1 : Int32)
    · replace hm := hm_t c10 hm
      refine q_tableIn (pc := 13) (tgt := 61) C dX8_told_13 (by rw [c10]; decide) (by rw [c10]; decide) (by rw [c10]; rfl) (by decide) ?_
      refine q_aload_n (pc := 61) C dX8_told_61 rfl 0 rfl ?_
      obtain ⟨r7, h10, hm⟩ := o1_some hm
      refine q_callU (pc := 62) (k := 18) (As := []) (rest := []) (T := TX4) (owner := "Tessera$Store") (x := ⟨"Tessera$Store", "wordsHad", "()I"⟩) C (c_St_wordsHad_18 hi h10) (by decide) (ce_18 _ _ _) (ci := 4) rfl (Or.inl rfl) tw_726 tw_727 tw_414 tw_731 tw_62 tw_415 (by decide +kernel) (by decide) (by decide) rfl dX8_told_62 ?_
      cases hm
      exact q_iret (pc := 65) C dX8_told_65
    replace hm := hm_f c10 hm
    by_cases c11 : a2 = (2 : Int32)
    · replace hm := hm_t c11 hm
      refine q_tableIn (pc := 13) (tgt := 66) C dX8_told_13 (by rw [c11]; decide) (by rw [c11]; decide) (by rw [c11]; rfl) (by decide) ?_
      refine q_aload_n (pc := 66) C dX8_told_66 rfl 0 rfl ?_
      obtain ⟨r8, h11, hm⟩ := o1_some hm
      refine q_callU (pc := 67) (k := 18) (As := []) (rest := []) (T := TX4) (owner := "Tessera$Store") (x := ⟨"Tessera$Store", "countUnreached", "()I"⟩) C (c_St_countUnreached_18 hi h11) (by decide) (ce_18 _ _ _) (ci := 4) rfl (Or.inl rfl) tw_732 tw_733 tw_735 tw_739 tw_62 tw_736 (by decide +kernel) (by decide) (by decide) rfl dX8_told_67 ?_
      cases hm
      exact q_iret (pc := 70) C dX8_told_70
    replace hm := hm_f c11 hm
    by_cases c12 : a2 = (3 : Int32)
    · replace hm := hm_t c12 hm
      refine q_tableIn (pc := 13) (tgt := 71) C dX8_told_13 (by rw [c12]; decide) (by rw [c12]; decide) (by rw [c12]; rfl) (by decide) ?_
      refine q_aload_n (pc := 71) C dX8_told_71 rfl 0 rfl ?_
      refine q_get (pc := 72) (T := TX4) (v := .int (S 18 2)) C (by decide) (ce_18 _ _ _) (ci := 4) rfl inlX4 (j := 2) (by decide) rfl tw_713 (Or.inl rfl) dX8_told_72 ?_
      cases hm
      exact q_iret (pc := 75) C dX8_told_75
    replace hm := hm_f c12 hm
    by_cases c13 : a2 = (4 : Int32)
    · replace hm := hm_t c13 hm
      refine q_tableIn (pc := 13) (tgt := 76) C dX8_told_13 (by rw [c13]; decide) (by rw [c13]; decide) (by rw [c13]; rfl) (by decide) ?_
      refine q_aload_n (pc := 76) C dX8_told_76 rfl 0 rfl ?_
      refine q_get (pc := 77) (T := TX4) (v := .int (S 18 3)) C (by decide) (ce_18 _ _ _) (ci := 4) rfl inlX4 (j := 3) (by decide) rfl tw_714 (Or.inl rfl) dX8_told_77 ?_
      cases hm
      exact q_iret (pc := 80) C dX8_told_80
    replace hm := hm_f c13 hm
    by_cases c14 : a2 = (5 : Int32)
    · replace hm := hm_t c14 hm
      refine q_tableIn (pc := 13) (tgt := 81) C dX8_told_13 (by rw [c14]; decide) (by rw [c14]; decide) (by rw [c14]; rfl) (by decide) ?_
      refine q_aload_n (pc := 81) C dX8_told_81 rfl 0 rfl ?_
      refine q_get (pc := 82) (T := TX4) (v := .int (S 18 5)) C (by decide) (ce_18 _ _ _) (ci := 4) rfl inlX4 (j := 5) (by decide) rfl tw_199 (Or.inl rfl) dX8_told_82 ?_
      refine q_if_eq (pc := 85) (tgt := 92) C dX8_told_85 (by decide) (fun c15 => ?_) (fun c15 => ?_)
      · replace hm := hm_t c15 hm
        refine q_aload_n (pc := 92) C dX8_told_92 rfl 0 rfl ?_
        obtain ⟨r9, h12, hm⟩ := o1_some hm
        refine q_callU (pc := 93) (k := 18) (As := []) (rest := []) (T := TX4) (owner := "Tessera$Store") (x := ⟨"Tessera$Store", "freeTogether", "()I"⟩) C (c_Nur_freeTogether hi h12) (by decide) (ce_18 _ _ _) (ci := 4) rfl (Or.inr (Or.inl (by decide))) tw_740 tw_741 tw_490 tw_748 tw_16 tw_492 (by decide +kernel) (by decide) (by decide) rfl dX8_told_93 ?_
        cases hm
        exact q_iret (pc := 96) C dX8_told_96
      · replace hm := hm_f c15 hm
        refine q_iconst (pc := 88) (v := (0 : Int32)) C dX8_told_88 (by decide) ?_
        refine q_goto (pc := 89) (tgt := 96) C dX8_told_89 (by decide) ?_
        cases hm
        exact q_iret (pc := 96) C dX8_told_96
    replace hm := hm_f c14 hm
    by_cases c16 : a2 = (6 : Int32)
    · replace hm := hm_t c16 hm
      refine q_tableIn (pc := 13) (tgt := 97) C dX8_told_13 (by rw [c16]; decide) (by rw [c16]; decide) (by rw [c16]; rfl) (by decide) ?_
      refine q_aload_n (pc := 97) C dX8_told_97 rfl 0 rfl ?_
      refine q_get (pc := 98) (T := TX4) (v := .int (S 18 4)) C (by decide) (ce_18 _ _ _) (ci := 4) rfl inlX4 (j := 4) (by decide) rfl tw_715 (Or.inl rfl) dX8_told_98 ?_
      cases hm
      exact q_iret (pc := 101) C dX8_told_101
    replace hm := hm_f c16 hm
    refine q_tableOut (pc := 13) (tgt := 102) C dX8_told_13 (q_out 6 (by decide) [(0 : Int32), (1 : Int32), (2 : Int32), (3 : Int32), (4 : Int32), (5 : Int32), (6 : Int32)] (by decide) (by simp [c9, c10, c11, c12, c13, c14, c16])) (by decide) ?_
    refine q_aload_n (pc := 102) C dX8_told_102 rfl 0 rfl ?_
    refine q_get (pc := 103) (T := TX4) (v := .int (S 18 5)) C (by decide) (ce_18 _ _ _) (ci := 4) rfl inlX4 (j := 5) (by decide) rfl tw_199 (Or.inl rfl) dX8_told_103 ?_
    obtain ⟨r10, h13, hm⟩ := o1_some hm
    refine q_callS (pc := 106) (As := [.int (S 18 5)]) (rest := []) C (c_Te_asNumber hi h13) tw_671 tw_672 tw_2 tw_673 (by decide +kernel) (by decide) (by decide) rfl dX8_told_106 ?_
    cases hm
    exact q_iret (pc := 109) C dX8_told_109
  replace hm := hm_f c34 hm
  by_cases c35 : k1 = 31
  · replace hm := hm_t c35 hm
    subst c35
    refine q_astore_n (pc := 5) (lv' := [(3, .ref (gad G 31)), (0, .ref (gad G 0)), (1, .int a1), (2, .int a2)]) C dX8_told_5 rfl (by decide) rfl ?_
    refine q_iload_n (pc := 6) C dX8_told_6 rfl 3 rfl ?_
    refine q_bipush (pc := 7) (v := (7 : Int32)) C dX8_told_7 (by decide) ?_
    obtain ⟨u3, h14, hm⟩ := o1_some hm
    refine q_callS (pc := 9) (As := [.int a2, .int (7 : Int32)]) (rest := []) C (c_Te_checkWhat hi h14) tw_667 tw_668 tw_2 tw_669 (by decide +kernel) (by decide) (by decide) rfl dX8_told_9 ?_
    refine q_iload_n (pc := 12) C dX8_told_12 rfl 3 rfl ?_
    by_cases c17 : a2 = (0 : Int32)
    · replace hm := hm_t c17 hm
      refine q_tableIn (pc := 13) (tgt := 56) C dX8_told_13 (by rw [c17]; decide) (by rw [c17]; decide) (by rw [c17]; rfl) (by decide) ?_
      refine q_aload_n (pc := 56) C dX8_told_56 rfl 0 rfl ?_
      obtain ⟨r11, h15, hm⟩ := o1_some hm
      refine q_callU (pc := 57) (k := 31) (As := []) (rest := []) (T := TX3) (owner := "Tessera$Store") (x := ⟨"Tessera$Store", "countHad", "()I"⟩) C (c_St_countHad_31 hi h15) (by decide) (ce_31 _ _ _) (ci := 3) rfl (Or.inl rfl) tw_720 tw_721 tw_250 tw_724 tw_62 tw_251 (by decide +kernel) (by decide) (by decide) rfl dX8_told_57 ?_
      cases hm
      exact q_iret (pc := 60) C dX8_told_60
    replace hm := hm_f c17 hm
    by_cases c18 : a2 = (1 : Int32)
    · replace hm := hm_t c18 hm
      refine q_tableIn (pc := 13) (tgt := 61) C dX8_told_13 (by rw [c18]; decide) (by rw [c18]; decide) (by rw [c18]; rfl) (by decide) ?_
      refine q_aload_n (pc := 61) C dX8_told_61 rfl 0 rfl ?_
      obtain ⟨r12, h16, hm⟩ := o1_some hm
      refine q_callU (pc := 62) (k := 31) (As := []) (rest := []) (T := TX3) (owner := "Tessera$Store") (x := ⟨"Tessera$Store", "wordsHad", "()I"⟩) C (c_St_wordsHad_31 hi h16) (by decide) (ce_31 _ _ _) (ci := 3) rfl (Or.inl rfl) tw_726 tw_727 tw_414 tw_730 tw_62 tw_415 (by decide +kernel) (by decide) (by decide) rfl dX8_told_62 ?_
      cases hm
      exact q_iret (pc := 65) C dX8_told_65
    replace hm := hm_f c18 hm
    by_cases c19 : a2 = (2 : Int32)
    · replace hm := hm_t c19 hm
      refine q_tableIn (pc := 13) (tgt := 66) C dX8_told_13 (by rw [c19]; decide) (by rw [c19]; decide) (by rw [c19]; rfl) (by decide) ?_
      refine q_aload_n (pc := 66) C dX8_told_66 rfl 0 rfl ?_
      obtain ⟨r13, h17, hm⟩ := o1_some hm
      refine q_callU (pc := 67) (k := 31) (As := []) (rest := []) (T := TX3) (owner := "Tessera$Store") (x := ⟨"Tessera$Store", "countUnreached", "()I"⟩) C (c_St_countUnreached_31 hi h17) (by decide) (ce_31 _ _ _) (ci := 3) rfl (Or.inl rfl) tw_732 tw_733 tw_735 tw_738 tw_62 tw_736 (by decide +kernel) (by decide) (by decide) rfl dX8_told_67 ?_
      cases hm
      exact q_iret (pc := 70) C dX8_told_70
    replace hm := hm_f c19 hm
    by_cases c20 : a2 = (3 : Int32)
    · replace hm := hm_t c20 hm
      refine q_tableIn (pc := 13) (tgt := 71) C dX8_told_13 (by rw [c20]; decide) (by rw [c20]; decide) (by rw [c20]; rfl) (by decide) ?_
      refine q_aload_n (pc := 71) C dX8_told_71 rfl 0 rfl ?_
      refine q_get (pc := 72) (T := TX3) (v := .int (S 31 3)) C (by decide) (ce_31 _ _ _) (ci := 3) rfl inlX3 (j := 3) (by decide) rfl tw_713 (Or.inl rfl) dX8_told_72 ?_
      cases hm
      exact q_iret (pc := 75) C dX8_told_75
    replace hm := hm_f c20 hm
    by_cases c21 : a2 = (4 : Int32)
    · replace hm := hm_t c21 hm
      refine q_tableIn (pc := 13) (tgt := 76) C dX8_told_13 (by rw [c21]; decide) (by rw [c21]; decide) (by rw [c21]; rfl) (by decide) ?_
      refine q_aload_n (pc := 76) C dX8_told_76 rfl 0 rfl ?_
      refine q_get (pc := 77) (T := TX3) (v := .int (S 31 4)) C (by decide) (ce_31 _ _ _) (ci := 3) rfl inlX3 (j := 4) (by decide) rfl tw_714 (Or.inl rfl) dX8_told_77 ?_
      cases hm
      exact q_iret (pc := 80) C dX8_told_80
    replace hm := hm_f c21 hm
    by_cases c22 : a2 = (5 : Int32)
    · replace hm := hm_t c22 hm
      refine q_tableIn (pc := 13) (tgt := 81) C dX8_told_13 (by rw [c22]; decide) (by rw [c22]; decide) (by rw [c22]; rfl) (by decide) ?_
      refine q_aload_n (pc := 81) C dX8_told_81 rfl 0 rfl ?_
      refine q_get (pc := 82) (T := TX3) (v := .int (S 31 6)) C (by decide) (ce_31 _ _ _) (ci := 3) rfl inlX3 (j := 6) (by decide) rfl tw_199 (Or.inl rfl) dX8_told_82 ?_
      refine q_if_eq (pc := 85) (tgt := 92) C dX8_told_85 (by decide) (fun c23 => ?_) (fun c23 => ?_)
      · replace hm := hm_t c23 hm
        refine q_aload_n (pc := 92) C dX8_told_92 rfl 0 rfl ?_
        obtain ⟨r14, S1, h18, hm⟩ := ob_some hm
        refine q_callU (pc := 93) (k := 31) (As := []) (rest := []) (T := TX3) (owner := "Tessera$Store") (x := ⟨"Tessera$Store", "freeTogether", "()I"⟩) C (c_Sc_freeTogether_31 hi h18) (by decide) (ce_31 _ _ _) (ci := 3) rfl (Or.inr (Or.inl (by decide))) tw_740 tw_741 tw_744 tw_747 tw_78 tw_745 (by decide +kernel) (by decide) (by decide) rfl dX8_told_93 ?_
        cases hm
        exact q_iret (pc := 96) C dX8_told_96
      · replace hm := hm_f c23 hm
        refine q_iconst (pc := 88) (v := (0 : Int32)) C dX8_told_88 (by decide) ?_
        refine q_goto (pc := 89) (tgt := 96) C dX8_told_89 (by decide) ?_
        cases hm
        exact q_iret (pc := 96) C dX8_told_96
    replace hm := hm_f c22 hm
    by_cases c24 : a2 = (6 : Int32)
    · replace hm := hm_t c24 hm
      refine q_tableIn (pc := 13) (tgt := 97) C dX8_told_13 (by rw [c24]; decide) (by rw [c24]; decide) (by rw [c24]; rfl) (by decide) ?_
      refine q_aload_n (pc := 97) C dX8_told_97 rfl 0 rfl ?_
      refine q_get (pc := 98) (T := TX3) (v := .int (S 31 5)) C (by decide) (ce_31 _ _ _) (ci := 3) rfl inlX3 (j := 5) (by decide) rfl tw_715 (Or.inl rfl) dX8_told_98 ?_
      cases hm
      exact q_iret (pc := 101) C dX8_told_101
    replace hm := hm_f c24 hm
    refine q_tableOut (pc := 13) (tgt := 102) C dX8_told_13 (q_out 6 (by decide) [(0 : Int32), (1 : Int32), (2 : Int32), (3 : Int32), (4 : Int32), (5 : Int32), (6 : Int32)] (by decide) (by simp [c17, c18, c19, c20, c21, c22, c24])) (by decide) ?_
    refine q_aload_n (pc := 102) C dX8_told_102 rfl 0 rfl ?_
    refine q_get (pc := 103) (T := TX3) (v := .int (S 31 6)) C (by decide) (ce_31 _ _ _) (ci := 3) rfl inlX3 (j := 6) (by decide) rfl tw_199 (Or.inl rfl) dX8_told_103 ?_
    obtain ⟨r15, h19, hm⟩ := o1_some hm
    refine q_callS (pc := 106) (As := [.int (S 31 6)]) (rest := []) C (c_Te_asNumber hi h19) tw_671 tw_672 tw_2 tw_673 (by decide +kernel) (by decide) (by decide) rfl dX8_told_106 ?_
    cases hm
    exact q_iret (pc := 109) C dX8_told_109
  replace hm := hm_f c35 hm
  by_cases c36 : k1 = 42
  · replace hm := hm_t c36 hm
    subst c36
    refine q_astore_n (pc := 5) (lv' := [(3, .ref (gad G 42)), (0, .ref (gad G 0)), (1, .int a1), (2, .int a2)]) C dX8_told_5 rfl (by decide) rfl ?_
    refine q_iload_n (pc := 6) C dX8_told_6 rfl 3 rfl ?_
    refine q_bipush (pc := 7) (v := (7 : Int32)) C dX8_told_7 (by decide) ?_
    obtain ⟨u4, h20, hm⟩ := o1_some hm
    refine q_callS (pc := 9) (As := [.int a2, .int (7 : Int32)]) (rest := []) C (c_Te_checkWhat hi h20) tw_667 tw_668 tw_2 tw_669 (by decide +kernel) (by decide) (by decide) rfl dX8_told_9 ?_
    refine q_iload_n (pc := 12) C dX8_told_12 rfl 3 rfl ?_
    by_cases c25 : a2 = (0 : Int32)
    · replace hm := hm_t c25 hm
      refine q_tableIn (pc := 13) (tgt := 56) C dX8_told_13 (by rw [c25]; decide) (by rw [c25]; decide) (by rw [c25]; rfl) (by decide) ?_
      refine q_aload_n (pc := 56) C dX8_told_56 rfl 0 rfl ?_
      obtain ⟨r16, h21, hm⟩ := o1_some hm
      refine q_callU (pc := 57) (k := 42) (As := []) (rest := []) (T := TX1) (owner := "Tessera$Store") (x := ⟨"Tessera$Store", "countHad", "()I"⟩) C (c_St_countHad_42 hi h21) (by decide) (ce_42 _ _ _) (ci := 1) rfl (Or.inl rfl) tw_720 tw_721 tw_250 tw_723 tw_62 tw_251 (by decide +kernel) (by decide) (by decide) rfl dX8_told_57 ?_
      cases hm
      exact q_iret (pc := 60) C dX8_told_60
    replace hm := hm_f c25 hm
    by_cases c26 : a2 = (1 : Int32)
    · replace hm := hm_t c26 hm
      refine q_tableIn (pc := 13) (tgt := 61) C dX8_told_13 (by rw [c26]; decide) (by rw [c26]; decide) (by rw [c26]; rfl) (by decide) ?_
      refine q_aload_n (pc := 61) C dX8_told_61 rfl 0 rfl ?_
      obtain ⟨r17, h22, hm⟩ := o1_some hm
      refine q_callU (pc := 62) (k := 42) (As := []) (rest := []) (T := TX1) (owner := "Tessera$Store") (x := ⟨"Tessera$Store", "wordsHad", "()I"⟩) C (c_St_wordsHad_42 hi h22) (by decide) (ce_42 _ _ _) (ci := 1) rfl (Or.inl rfl) tw_726 tw_727 tw_414 tw_729 tw_62 tw_415 (by decide +kernel) (by decide) (by decide) rfl dX8_told_62 ?_
      cases hm
      exact q_iret (pc := 65) C dX8_told_65
    replace hm := hm_f c26 hm
    by_cases c27 : a2 = (2 : Int32)
    · replace hm := hm_t c27 hm
      refine q_tableIn (pc := 13) (tgt := 66) C dX8_told_13 (by rw [c27]; decide) (by rw [c27]; decide) (by rw [c27]; rfl) (by decide) ?_
      refine q_aload_n (pc := 66) C dX8_told_66 rfl 0 rfl ?_
      obtain ⟨r18, h23, hm⟩ := o1_some hm
      refine q_callU (pc := 67) (k := 42) (As := []) (rest := []) (T := TX1) (owner := "Tessera$Store") (x := ⟨"Tessera$Store", "countUnreached", "()I"⟩) C (c_St_countUnreached_42 hi h23) (by decide) (ce_42 _ _ _) (ci := 1) rfl (Or.inl rfl) tw_732 tw_733 tw_735 tw_737 tw_62 tw_736 (by decide +kernel) (by decide) (by decide) rfl dX8_told_67 ?_
      cases hm
      exact q_iret (pc := 70) C dX8_told_70
    replace hm := hm_f c27 hm
    by_cases c28 : a2 = (3 : Int32)
    · replace hm := hm_t c28 hm
      refine q_tableIn (pc := 13) (tgt := 71) C dX8_told_13 (by rw [c28]; decide) (by rw [c28]; decide) (by rw [c28]; rfl) (by decide) ?_
      refine q_aload_n (pc := 71) C dX8_told_71 rfl 0 rfl ?_
      refine q_get (pc := 72) (T := TX1) (v := .int (S 42 3)) C (by decide) (ce_42 _ _ _) (ci := 1) rfl inlX1 (j := 3) (by decide) rfl tw_713 (Or.inl rfl) dX8_told_72 ?_
      cases hm
      exact q_iret (pc := 75) C dX8_told_75
    replace hm := hm_f c28 hm
    by_cases c29 : a2 = (4 : Int32)
    · replace hm := hm_t c29 hm
      refine q_tableIn (pc := 13) (tgt := 76) C dX8_told_13 (by rw [c29]; decide) (by rw [c29]; decide) (by rw [c29]; rfl) (by decide) ?_
      refine q_aload_n (pc := 76) C dX8_told_76 rfl 0 rfl ?_
      refine q_get (pc := 77) (T := TX1) (v := .int (S 42 4)) C (by decide) (ce_42 _ _ _) (ci := 1) rfl inlX1 (j := 4) (by decide) rfl tw_714 (Or.inl rfl) dX8_told_77 ?_
      cases hm
      exact q_iret (pc := 80) C dX8_told_80
    replace hm := hm_f c29 hm
    by_cases c30 : a2 = (5 : Int32)
    · replace hm := hm_t c30 hm
      refine q_tableIn (pc := 13) (tgt := 81) C dX8_told_13 (by rw [c30]; decide) (by rw [c30]; decide) (by rw [c30]; rfl) (by decide) ?_
      refine q_aload_n (pc := 81) C dX8_told_81 rfl 0 rfl ?_
      refine q_get (pc := 82) (T := TX1) (v := .int (S 42 6)) C (by decide) (ce_42 _ _ _) (ci := 1) rfl inlX1 (j := 6) (by decide) rfl tw_199 (Or.inl rfl) dX8_told_82 ?_
      refine q_if_eq (pc := 85) (tgt := 92) C dX8_told_85 (by decide) (fun c31 => ?_) (fun c31 => ?_)
      · replace hm := hm_t c31 hm
        refine q_aload_n (pc := 92) C dX8_told_92 rfl 0 rfl ?_
        obtain ⟨r19, S2, h24, hm⟩ := ob_some hm
        refine q_callU (pc := 93) (k := 42) (As := []) (rest := []) (T := TX1) (owner := "Tessera$Store") (x := ⟨"Tessera$Store", "freeTogether", "()I"⟩) C (c_Sc_freeTogether_42 hi h24) (by decide) (ce_42 _ _ _) (ci := 1) rfl (Or.inr (Or.inl (by decide))) tw_740 tw_741 tw_744 tw_743 tw_78 tw_745 (by decide +kernel) (by decide) (by decide) rfl dX8_told_93 ?_
        cases hm
        exact q_iret (pc := 96) C dX8_told_96
      · replace hm := hm_f c31 hm
        refine q_iconst (pc := 88) (v := (0 : Int32)) C dX8_told_88 (by decide) ?_
        refine q_goto (pc := 89) (tgt := 96) C dX8_told_89 (by decide) ?_
        cases hm
        exact q_iret (pc := 96) C dX8_told_96
    replace hm := hm_f c30 hm
    by_cases c32 : a2 = (6 : Int32)
    · replace hm := hm_t c32 hm
      refine q_tableIn (pc := 13) (tgt := 97) C dX8_told_13 (by rw [c32]; decide) (by rw [c32]; decide) (by rw [c32]; rfl) (by decide) ?_
      refine q_aload_n (pc := 97) C dX8_told_97 rfl 0 rfl ?_
      refine q_get (pc := 98) (T := TX1) (v := .int (S 42 5)) C (by decide) (ce_42 _ _ _) (ci := 1) rfl inlX1 (j := 5) (by decide) rfl tw_715 (Or.inl rfl) dX8_told_98 ?_
      cases hm
      exact q_iret (pc := 101) C dX8_told_101
    replace hm := hm_f c32 hm
    refine q_tableOut (pc := 13) (tgt := 102) C dX8_told_13 (q_out 6 (by decide) [(0 : Int32), (1 : Int32), (2 : Int32), (3 : Int32), (4 : Int32), (5 : Int32), (6 : Int32)] (by decide) (by simp [c25, c26, c27, c28, c29, c30, c32])) (by decide) ?_
    refine q_aload_n (pc := 102) C dX8_told_102 rfl 0 rfl ?_
    refine q_get (pc := 103) (T := TX1) (v := .int (S 42 6)) C (by decide) (ce_42 _ _ _) (ci := 1) rfl inlX1 (j := 6) (by decide) rfl tw_199 (Or.inl rfl) dX8_told_103 ?_
    obtain ⟨r20, h25, hm⟩ := o1_some hm
    refine q_callS (pc := 106) (As := [.int (S 42 6)]) (rest := []) C (c_Te_asNumber hi h25) tw_671 tw_672 tw_2 tw_673 (by decide +kernel) (by decide) (by decide) rfl dX8_told_106 ?_
    cases hm
    exact q_iret (pc := 109) C dX8_told_109
  replace hm := hm_f c36 hm
  cases hm
set_option maxRecDepth 100000 in
theorem c_St_placeOf_12 {G : Gx} (hi : qinj (gad G)) {S : St} {a1 : Int32} {r9 : Int32} (hm : m_St_placeOf 12 0 S a1 = some r9) : QMet G yX7_placeOf cX7_placeOf 2 (some .int) 1 21 [.ref (gad G 12), .int a1] S (some (.int r9)) S := by
  refine q_entry (by decide +kernel) rfl hi (by decide) ?_
  intro X C
  refine q_lv (lv' := [(0, .ref (gad G 12)), (1, .int a1)]) [0, 1] rfl ?_
  unfold m_St_placeOf at hm
  refine q_aload_n (pc := 0) C dX7_placeOf_0 rfl 0 rfl ?_
  refine q_iload_n (pc := 1) C dX7_placeOf_1 rfl 1 rfl ?_
  obtain ⟨r1, h1, hm⟩ := o1_some hm
  refine q_callU (pc := 2) (k := 12) (As := [.int a1]) (rest := []) (T := TX0) (owner := "Tessera$Store") (x := ⟨"Tessera$Store", "has", "(I)Z"⟩) C (c_St_has_12 hi h1) (by decide) (ce_12 _ _ _) (ci := 0) rfl (Or.inl rfl) tw_253 tw_254 tw_256 tw_255 tw_62 tw_257 (by decide +kernel) (by decide) (by decide) rfl dX7_placeOf_2 ?_
  refine q_if_eq (pc := 5) (tgt := 17) C dX7_placeOf_5 (by decide) (fun c1 => ?_) (fun c1 => ?_)
  · replace hm := hm_t c1 hm
    refine q_iconst (pc := 17) (v := (-1 : Int32)) C dX7_placeOf_17 (by decide) ?_
    cases hm
    exact q_iret (pc := 18) C dX7_placeOf_18
  · replace hm := hm_f c1 hm
    refine q_aload_n (pc := 8) C dX7_placeOf_8 rfl 0 rfl ?_
    refine q_get (pc := 9) (T := TX0) (v := .ref (gad G 14)) C (by decide) (ce_12 _ _ _) (ci := 0) rfl inlX0 (j := 8) (by decide) rfl tw_66 (Or.inl rfl) dX7_placeOf_9 ?_
    refine q_iload_n (pc := 12) C dX7_placeOf_12 rfl 1 rfl ?_
    obtain ⟨b1, hm⟩ := oi_some hm
    refine q_iald (pc := 13) C (by decide) (ce_14 _ _ _) (ty_14 _) b1 dX7_placeOf_13 ?_
    refine q_goto (pc := 14) (tgt := 18) C dX7_placeOf_14 (by decide) ?_
    cases hm
    exact q_iret (pc := 18) C dX7_placeOf_18
set_option maxRecDepth 100000 in
theorem c_St_placeOf_18 {G : Gx} (hi : qinj (gad G)) {S : St} {a1 : Int32} {r9 : Int32} (hm : m_St_placeOf 18 0 S a1 = some r9) : QMet G yX7_placeOf cX7_placeOf 2 (some .int) 1 21 [.ref (gad G 18), .int a1] S (some (.int r9)) S := by
  refine q_entry (by decide +kernel) rfl hi (by decide) ?_
  intro X C
  refine q_lv (lv' := [(0, .ref (gad G 18)), (1, .int a1)]) [0, 1] rfl ?_
  unfold m_St_placeOf at hm
  refine q_aload_n (pc := 0) C dX7_placeOf_0 rfl 0 rfl ?_
  refine q_iload_n (pc := 1) C dX7_placeOf_1 rfl 1 rfl ?_
  obtain ⟨r1, h1, hm⟩ := o1_some hm
  refine q_callU (pc := 2) (k := 18) (As := [.int a1]) (rest := []) (T := TX4) (owner := "Tessera$Store") (x := ⟨"Tessera$Store", "has", "(I)Z"⟩) C (c_St_has_18 hi h1) (by decide) (ce_18 _ _ _) (ci := 4) rfl (Or.inl rfl) tw_253 tw_254 tw_256 tw_260 tw_62 tw_257 (by decide +kernel) (by decide) (by decide) rfl dX7_placeOf_2 ?_
  refine q_if_eq (pc := 5) (tgt := 17) C dX7_placeOf_5 (by decide) (fun c1 => ?_) (fun c1 => ?_)
  · replace hm := hm_t c1 hm
    refine q_iconst (pc := 17) (v := (-1 : Int32)) C dX7_placeOf_17 (by decide) ?_
    cases hm
    exact q_iret (pc := 18) C dX7_placeOf_18
  · replace hm := hm_f c1 hm
    refine q_aload_n (pc := 8) C dX7_placeOf_8 rfl 0 rfl ?_
    refine q_get (pc := 9) (T := TX4) (v := .ref (gad G 20)) C (by decide) (ce_18 _ _ _) (ci := 4) rfl inlX4 (j := 8) (by decide) rfl tw_66 (Or.inl rfl) dX7_placeOf_9 ?_
    refine q_iload_n (pc := 12) C dX7_placeOf_12 rfl 1 rfl ?_
    obtain ⟨b1, hm⟩ := oi_some hm
    refine q_iald (pc := 13) C (by decide) (ce_20 _ _ _) (ty_20 _) b1 dX7_placeOf_13 ?_
    refine q_goto (pc := 14) (tgt := 18) C dX7_placeOf_14 (by decide) ?_
    cases hm
    exact q_iret (pc := 18) C dX7_placeOf_18
set_option maxRecDepth 100000 in
theorem c_Te_at {G : Gx} (hi : qinj (gad G)) {S : St} {a1 : Int32} {a2 : Int32} {r9 : Int32} (hm : m_Te_at S a1 a2 = some r9) : QMet G yX8_at cX8_at 4 (some .int) 2 42 [.ref (gad G 0), .int a1, .int a2] S (some (.int r9)) S := by
  refine q_entry (by decide +kernel) rfl hi (by decide) ?_
  intro X C
  refine q_lv (lv' := [(0, .ref (gad G 0)), (1, .int a1), (2, .int a2)]) [0, 1, 2] rfl ?_
  unfold m_Te_at at hm
  refine q_aload_n (pc := 0) C dX8_at_0 rfl 0 rfl ?_
  refine q_iload_n (pc := 1) C dX8_at_1 rfl 1 rfl ?_
  obtain ⟨k1, h1, hm⟩ := o1_some hm
  refine q_callV (pc := 2) (k := 0) (As := [.int a1]) (rest := []) (T := TX8) C (c_Te_storeOf hi h1) (by decide) (ce_0 _ _ _) (ci := 6) rfl tw_716 tw_717 tw_718 tw_2 tw_719 (by decide +kernel) (by decide) (by decide) rfl dX8_at_2 ?_
  by_cases c1 : k1 = 12
  · replace hm := hm_t c1 hm
    subst c1
    refine q_astore_n (pc := 5) (lv' := [(3, .ref (gad G 12)), (0, .ref (gad G 0)), (1, .int a1), (2, .int a2)]) C dX8_at_5 rfl (by decide) rfl ?_
    refine q_aload_n (pc := 6) C dX8_at_6 rfl 1 rfl ?_
    refine q_iload_n (pc := 7) C dX8_at_7 rfl 3 rfl ?_
    obtain ⟨u1, h2, hm⟩ := o1_some hm
    refine q_callV (pc := 8) (k := 0) (As := [.int a2]) (rest := []) (T := TX8) C (c_Te_checkThing hi h2) (by decide) (ce_0 _ _ _) (ci := 6) rfl tw_662 tw_663 tw_664 tw_2 tw_665 (by decide +kernel) (by decide) (by decide) rfl dX8_at_8 ?_
    refine q_aload_n (pc := 11) C dX8_at_11 rfl 0 rfl ?_
    refine q_iload_n (pc := 12) C dX8_at_12 rfl 3 rfl ?_
    obtain ⟨r1, h3, hm⟩ := o1_some hm
    refine q_callU (pc := 13) (k := 12) (As := [.int a2]) (rest := []) (T := TX0) (owner := "Tessera$Store") (x := ⟨"Tessera$Store", "placeOf", "(I)I"⟩) C (c_St_placeOf_12 hi h3) (by decide) (ce_12 _ _ _) (ci := 0) rfl (Or.inl rfl) tw_753 tw_754 tw_341 tw_755 tw_62 tw_342 (by decide +kernel) (by decide) (by decide) rfl dX8_at_13 ?_
    cases hm
    exact q_iret (pc := 16) C dX8_at_16
  replace hm := hm_f c1 hm
  by_cases c2 : k1 = 18
  · replace hm := hm_t c2 hm
    subst c2
    refine q_astore_n (pc := 5) (lv' := [(3, .ref (gad G 18)), (0, .ref (gad G 0)), (1, .int a1), (2, .int a2)]) C dX8_at_5 rfl (by decide) rfl ?_
    refine q_aload_n (pc := 6) C dX8_at_6 rfl 1 rfl ?_
    refine q_iload_n (pc := 7) C dX8_at_7 rfl 3 rfl ?_
    obtain ⟨u2, h4, hm⟩ := o1_some hm
    refine q_callV (pc := 8) (k := 0) (As := [.int a2]) (rest := []) (T := TX8) C (c_Te_checkThing hi h4) (by decide) (ce_0 _ _ _) (ci := 6) rfl tw_662 tw_663 tw_664 tw_2 tw_665 (by decide +kernel) (by decide) (by decide) rfl dX8_at_8 ?_
    refine q_aload_n (pc := 11) C dX8_at_11 rfl 0 rfl ?_
    refine q_iload_n (pc := 12) C dX8_at_12 rfl 3 rfl ?_
    obtain ⟨r2, h5, hm⟩ := o1_some hm
    refine q_callU (pc := 13) (k := 18) (As := [.int a2]) (rest := []) (T := TX4) (owner := "Tessera$Store") (x := ⟨"Tessera$Store", "placeOf", "(I)I"⟩) C (c_St_placeOf_18 hi h5) (by decide) (ce_18 _ _ _) (ci := 4) rfl (Or.inl rfl) tw_753 tw_754 tw_341 tw_758 tw_62 tw_342 (by decide +kernel) (by decide) (by decide) rfl dX8_at_13 ?_
    cases hm
    exact q_iret (pc := 16) C dX8_at_16
  replace hm := hm_f c2 hm
  by_cases c3 : k1 = 31
  · replace hm := hm_t c3 hm
    subst c3
    refine q_astore_n (pc := 5) (lv' := [(3, .ref (gad G 31)), (0, .ref (gad G 0)), (1, .int a1), (2, .int a2)]) C dX8_at_5 rfl (by decide) rfl ?_
    refine q_aload_n (pc := 6) C dX8_at_6 rfl 1 rfl ?_
    refine q_iload_n (pc := 7) C dX8_at_7 rfl 3 rfl ?_
    obtain ⟨u3, h6, hm⟩ := o1_some hm
    refine q_callV (pc := 8) (k := 0) (As := [.int a2]) (rest := []) (T := TX8) C (c_Te_checkThing hi h6) (by decide) (ce_0 _ _ _) (ci := 6) rfl tw_662 tw_663 tw_664 tw_2 tw_665 (by decide +kernel) (by decide) (by decide) rfl dX8_at_8 ?_
    refine q_aload_n (pc := 11) C dX8_at_11 rfl 0 rfl ?_
    refine q_iload_n (pc := 12) C dX8_at_12 rfl 3 rfl ?_
    obtain ⟨r3, h7, hm⟩ := o1_some hm
    refine q_callU (pc := 13) (k := 31) (As := [.int a2]) (rest := []) (T := TX3) (owner := "Tessera$Store") (x := ⟨"Tessera$Store", "placeOf", "(I)I"⟩) C (c_St_placeOf_31 hi h7) (by decide) (ce_31 _ _ _) (ci := 3) rfl (Or.inl rfl) tw_753 tw_754 tw_341 tw_757 tw_62 tw_342 (by decide +kernel) (by decide) (by decide) rfl dX8_at_13 ?_
    cases hm
    exact q_iret (pc := 16) C dX8_at_16
  replace hm := hm_f c3 hm
  by_cases c4 : k1 = 42
  · replace hm := hm_t c4 hm
    subst c4
    refine q_astore_n (pc := 5) (lv' := [(3, .ref (gad G 42)), (0, .ref (gad G 0)), (1, .int a1), (2, .int a2)]) C dX8_at_5 rfl (by decide) rfl ?_
    refine q_aload_n (pc := 6) C dX8_at_6 rfl 1 rfl ?_
    refine q_iload_n (pc := 7) C dX8_at_7 rfl 3 rfl ?_
    obtain ⟨u4, h8, hm⟩ := o1_some hm
    refine q_callV (pc := 8) (k := 0) (As := [.int a2]) (rest := []) (T := TX8) C (c_Te_checkThing hi h8) (by decide) (ce_0 _ _ _) (ci := 6) rfl tw_662 tw_663 tw_664 tw_2 tw_665 (by decide +kernel) (by decide) (by decide) rfl dX8_at_8 ?_
    refine q_aload_n (pc := 11) C dX8_at_11 rfl 0 rfl ?_
    refine q_iload_n (pc := 12) C dX8_at_12 rfl 3 rfl ?_
    obtain ⟨r4, h9, hm⟩ := o1_some hm
    refine q_callU (pc := 13) (k := 42) (As := [.int a2]) (rest := []) (T := TX1) (owner := "Tessera$Store") (x := ⟨"Tessera$Store", "placeOf", "(I)I"⟩) C (c_St_placeOf_42 hi h9) (by decide) (ce_42 _ _ _) (ci := 1) rfl (Or.inl rfl) tw_753 tw_754 tw_341 tw_756 tw_62 tw_342 (by decide +kernel) (by decide) (by decide) rfl dX8_at_13 ?_
    cases hm
    exact q_iret (pc := 16) C dX8_at_16
  replace hm := hm_f c4 hm
  cases hm
set_option maxRecDepth 100000 in
theorem c_Nur_ageOf {G : Gx} (hi : qinj (gad G)) {S : St} {a1 : Int32} {r9 : Int32} (hm : m_Nur_ageOf S a1 = some r9) : QMet G yX4_ageOf cX4_ageOf 2 (some .int) 2 42 [.ref (gad G 18), .int a1] S (some (.int r9)) S := by
  refine q_entry (by decide +kernel) rfl hi (by decide) ?_
  intro X C
  refine q_lv (lv' := [(0, .ref (gad G 18)), (1, .int a1)]) [0, 1] rfl ?_
  unfold m_Nur_ageOf at hm
  refine q_aload_n (pc := 0) C dX4_ageOf_0 rfl 0 rfl ?_
  refine q_iload_n (pc := 1) C dX4_ageOf_1 rfl 1 rfl ?_
  obtain ⟨r1, h1, hm⟩ := o1_some hm
  refine q_callU (pc := 2) (k := 18) (As := [.int a1]) (rest := []) (T := TX4) (owner := "Tessera$Store") (x := ⟨"Tessera$Nursery", "has", "(I)Z"⟩) C (c_St_has_18 hi h1) (by decide) (ce_18 _ _ _) (ci := 4) rfl (Or.inl rfl) tw_767 tw_768 tw_256 tw_769 tw_62 tw_257 (by decide +kernel) (by decide) (by decide) rfl dX4_ageOf_2 ?_
  refine q_if_ne (pc := 5) (tgt := 10) C dX4_ageOf_5 (by decide) (fun c1 => ?_) (fun c1 => ?_)
  · replace hm := hm_f c1 hm
    refine q_aload_n (pc := 10) C dX4_ageOf_10 rfl 0 rfl ?_
    refine q_get (pc := 11) (T := TX4) (v := .ref (gad G 21)) C (by decide) (ce_18 _ _ _) (ci := 4) rfl inlX4 (j := 11) (by decide) rfl tw_55 (Or.inl rfl) dX4_ageOf_11 ?_
    refine q_iload_n (pc := 14) C dX4_ageOf_14 rfl 1 rfl ?_
    obtain ⟨r2, h2, hm⟩ := o1_some hm
    refine q_callV (pc := 15) (k := 21) (As := [.int a1]) (rest := []) (T := TX5) C (c_Row_holds_21 hi h2) (by decide) (ce_21 _ _ _) (ci := 5) rfl tw_567 tw_384 tw_385 tw_43 tw_386 (by decide +kernel) (by decide) (by decide) rfl dX4_ageOf_15 ?_
    refine q_if_ne (pc := 18) (tgt := 23) C dX4_ageOf_18 (by decide) (fun c2 => ?_) (fun c2 => ?_)
    · replace hm := hm_f c2 hm
      refine q_aload_n (pc := 23) C dX4_ageOf_23 rfl 0 rfl ?_
      refine q_iload_n (pc := 24) C dX4_ageOf_24 rfl 1 rfl ?_
      obtain ⟨r3, h3, hm⟩ := o1_some hm
      refine q_callV (pc := 25) (k := 18) (As := [.int a1]) (rest := []) (T := TX4) C (c_Nur_isGrown hi h3) (by decide) (ce_18 _ _ _) (ci := 4) rfl tw_503 tw_504 tw_505 tw_16 tw_506 (by decide +kernel) (by decide) (by decide) rfl dX4_ageOf_25 ?_
      refine q_if_eq (pc := 28) (tgt := 35) C dX4_ageOf_28 (by decide) (fun c3 => ?_) (fun c3 => ?_)
      · replace hm := hm_t c3 hm
        refine q_iconst (pc := 35) (v := (0 : Int32)) C dX4_ageOf_35 (by decide) ?_
        cases hm
        exact q_iret (pc := 36) C dX4_ageOf_36
      · replace hm := hm_f c3 hm
        refine q_iconst (pc := 31) (v := (1 : Int32)) C dX4_ageOf_31 (by decide) ?_
        refine q_goto (pc := 32) (tgt := 36) C dX4_ageOf_32 (by decide) ?_
        cases hm
        exact q_iret (pc := 36) C dX4_ageOf_36
    · replace hm := hm_t c2 hm
      refine q_iconst (pc := 21) (v := (2 : Int32)) C dX4_ageOf_21 (by decide) ?_
      cases hm
      exact q_iret (pc := 22) C dX4_ageOf_22
  · replace hm := hm_t c1 hm
    refine q_iconst (pc := 8) (v := (-1 : Int32)) C dX4_ageOf_8 (by decide) ?_
    cases hm
    exact q_iret (pc := 9) C dX4_ageOf_9
set_option maxRecDepth 100000 in
theorem w_Nur_isRemembered_L15 {G : Gx} (hi : qinj (gad G)) {X : Cx} (C : QC G X cX4_isRemembered 3 RX4 1 22 (some .boolean)) : ∀ (n : Nat) (S : St) (v1 : Int32) (v2 : Int32) (r9 : Int32), m_Nur_isRemembered_L15 n S v1 v2 = some r9 → QW G X 3 (QE G X (some (.int r9)) S) 15 [(0, .ref (gad G 18)), (1, .int v1), (2, .int v2)] [] S := by
  intro n
  induction n with
  | zero =>
    intro S v1 v2 r9 hm
    rw [m_Nur_isRemembered_L15] at hm
    cases hm
  | succ n ih =>
    intro S v1 v2 r9 hm
    rw [m_Nur_isRemembered_L15] at hm
    refine q_iload_n (pc := 15) C dX4_isRemembered_15 rfl 2 rfl ?_
    refine q_aload_n (pc := 16) C dX4_isRemembered_16 rfl 0 rfl ?_
    refine q_get (pc := 17) (T := TX4) (v := .ref (gad G 1)) C (by decide) (ce_18 _ _ _) (ci := 4) rfl inlX4 (j := 0) (by decide) rfl tw_484 (Or.inr tw_485) dX4_isRemembered_17 ?_
    refine q_iload_n (pc := 20) C dX4_isRemembered_20 rfl 1 rfl ?_
    obtain ⟨r1, h1, hm⟩ := o1_some hm
    refine q_callV (pc := 21) (k := 1) (As := [.int v1]) (rest := [.int v2]) (T := TX2) C (c_Gr_fieldsOf hi h1) (by decide) (ce_1 _ _ _) (ci := 2) rfl tw_572 tw_279 tw_280 tw_13 tw_281 (by decide +kernel) (by decide) (by decide) rfl dX4_isRemembered_21 ?_
    refine q_icmp_ge (pc := 24) (tgt := 54) C dX4_isRemembered_24 (by decide) (fun c1 => ?_) (fun c1 => ?_)
    · replace hm := hm_t c1 hm
      refine q_iconst (pc := 54) (v := (0 : Int32)) C dX4_isRemembered_54 (by decide) ?_
      cases hm
      exact q_zret (pc := 55) C (by decide) dX4_isRemembered_55
    · replace hm := hm_f c1 hm
      refine q_aload_n (pc := 27) C dX4_isRemembered_27 rfl 0 rfl ?_
      refine q_get (pc := 28) (T := TX4) (v := .ref (gad G 21)) C (by decide) (ce_18 _ _ _) (ci := 4) rfl inlX4 (j := 11) (by decide) rfl tw_55 (Or.inl rfl) dX4_isRemembered_28 ?_
      refine q_aload_n (pc := 31) C dX4_isRemembered_31 rfl 0 rfl ?_
      refine q_get (pc := 32) (T := TX4) (v := .ref (gad G 1)) C (by decide) (ce_18 _ _ _) (ci := 4) rfl inlX4 (j := 0) (by decide) rfl tw_484 (Or.inr tw_485) dX4_isRemembered_32 ?_
      refine q_iload_n (pc := 35) C dX4_isRemembered_35 rfl 1 rfl ?_
      refine q_iload_n (pc := 36) C dX4_isRemembered_36 rfl 2 rfl ?_
      obtain ⟨r2, h2, hm⟩ := o1_some hm
      refine q_callV (pc := 37) (k := 1) (As := [.int v1, .int v2]) (rest := [.ref (gad G 21)]) (T := TX2) C (c_Gr_nameOf hi h2) (by decide) (ce_1 _ _ _) (ci := 2) rfl tw_573 tw_283 tw_284 tw_13 tw_285 (by decide +kernel) (by decide) (by decide) rfl dX4_isRemembered_37 ?_
      obtain ⟨r3, h3, hm⟩ := o1_some hm
      refine q_callV (pc := 40) (k := 21) (As := [.int r2]) (rest := []) (T := TX5) C (c_Row_holds_21 hi h3) (by decide) (ce_21 _ _ _) (ci := 5) rfl tw_567 tw_384 tw_385 tw_43 tw_386 (by decide +kernel) (by decide) (by decide) rfl dX4_isRemembered_40 ?_
      refine q_if_eq (pc := 43) (tgt := 48) C dX4_isRemembered_43 (by decide) (fun c2 => ?_) (fun c2 => ?_)
      · replace hm := hm_t c2 hm
        refine q_iinc (pc := 48) (k := 2) (v := (v2 + (1 : Int32))) (lv' := [(2, .int (v2 + (1 : Int32))), (0, .ref (gad G 18)), (1, .int v1)]) C dX4_isRemembered_48 rfl rfl (by decide) rfl ?_
        refine q_goto (pc := 51) (tgt := 15) C dX4_isRemembered_51 (by decide) ?_
        refine q_lv (lv' := [(0, .ref (gad G 18)), (1, .int v1), (2, .int (v2 + (1 : Int32)))]) [1, 2, 0] rfl ?_
        exact ih _ _ _ _ hm
      · replace hm := hm_f c2 hm
        refine q_iconst (pc := 46) (v := (1 : Int32)) C dX4_isRemembered_46 (by decide) ?_
        cases hm
        exact q_zret (pc := 47) C (by decide) dX4_isRemembered_47
set_option maxRecDepth 100000 in
theorem c_Nur_isRemembered {G : Gx} (hi : qinj (gad G)) {S : St} {a1 : Int32} {r9 : Int32} (hm : m_Nur_isRemembered S a1 = some r9) : QMet G yX4_isRemembered cX4_isRemembered 3 (some .boolean) 1 22 [.ref (gad G 18), .int a1] S (some (.int r9)) S := by
  refine q_entry (by decide +kernel) rfl hi (by decide) ?_
  intro X C
  refine q_lv (lv' := [(0, .ref (gad G 18)), (1, .int a1)]) [0, 1] rfl ?_
  unfold m_Nur_isRemembered at hm
  refine q_aload_n (pc := 0) C dX4_isRemembered_0 rfl 0 rfl ?_
  refine q_get (pc := 1) (T := TX4) (v := .ref (gad G 24)) C (by decide) (ce_18 _ _ _) (ci := 4) rfl inlX4 (j := 12) (by decide) rfl tw_56 (Or.inl rfl) dX4_isRemembered_1 ?_
  refine q_iload_n (pc := 4) C dX4_isRemembered_4 rfl 1 rfl ?_
  obtain ⟨r1, h1, hm⟩ := o1_some hm
  refine q_callV (pc := 5) (k := 24) (As := [.int a1]) (rest := []) (T := TX5) C (c_Row_holds_24 hi h1) (by decide) (ce_24 _ _ _) (ci := 5) rfl tw_567 tw_384 tw_385 tw_43 tw_386 (by decide +kernel) (by decide) (by decide) rfl dX4_isRemembered_5 ?_
  refine q_if_ne (pc := 8) (tgt := 13) C dX4_isRemembered_8 (by decide) (fun c1 => ?_) (fun c1 => ?_)
  · replace hm := hm_f c1 hm
    refine q_iconst (pc := 13) (v := (0 : Int32)) C dX4_isRemembered_13 (by decide) ?_
    refine q_istore_n (pc := 14) (lv' := [(2, .int (0 : Int32)), (0, .ref (gad G 18)), (1, .int a1)]) C dX4_isRemembered_14 rfl (by decide) rfl ?_
    refine q_lv (lv' := [(0, .ref (gad G 18)), (1, .int a1), (2, .int (0 : Int32))]) [1, 2, 0] rfl ?_
    exact w_Nur_isRemembered_L15 hi C 200 _ _ _ _ hm
  · replace hm := hm_t c1 hm
    refine q_iconst (pc := 11) (v := (0 : Int32)) C dX4_isRemembered_11 (by decide) ?_
    cases hm
    exact q_zret (pc := 12) C (by decide) dX4_isRemembered_12
set_option maxRecDepth 100000 in
theorem c_Cou_countOf {G : Gx} (hi : qinj (gad G)) {S : St} {a1 : Int32} {r9 : Int32} (hm : m_Cou_countOf S a1 = some r9) : QMet G yX1_countOf cX1_countOf 2 (some .int) 1 21 [.ref (gad G 42), .int a1] S (some (.int r9)) S := by
  refine q_entry (by decide +kernel) rfl hi (by decide) ?_
  intro X C
  refine q_lv (lv' := [(0, .ref (gad G 42)), (1, .int a1)]) [0, 1] rfl ?_
  unfold m_Cou_countOf at hm
  refine q_aload_n (pc := 0) C dX1_countOf_0 rfl 0 rfl ?_
  refine q_iload_n (pc := 1) C dX1_countOf_1 rfl 1 rfl ?_
  obtain ⟨r1, h1, hm⟩ := o1_some hm
  refine q_callU (pc := 2) (k := 42) (As := [.int a1]) (rest := []) (T := TX1) (owner := "Tessera$Store") (x := ⟨"Tessera$Counting", "has", "(I)Z"⟩) C (c_St_has_42 hi h1) (by decide) (ce_42 _ _ _) (ci := 1) rfl (Or.inl rfl) tw_365 tw_366 tw_256 tw_367 tw_62 tw_257 (by decide +kernel) (by decide) (by decide) rfl dX1_countOf_2 ?_
  refine q_if_eq (pc := 5) (tgt := 17) C dX1_countOf_5 (by decide) (fun c1 => ?_) (fun c1 => ?_)
  · replace hm := hm_t c1 hm
    refine q_iconst (pc := 17) (v := (-1 : Int32)) C dX1_countOf_17 (by decide) ?_
    cases hm
    exact q_iret (pc := 18) C dX1_countOf_18
  · replace hm := hm_f c1 hm
    refine q_aload_n (pc := 8) C dX1_countOf_8 rfl 0 rfl ?_
    refine q_get (pc := 9) (T := TX1) (v := .ref (gad G 46)) C (by decide) (ce_42 _ _ _) (ci := 1) rfl inlX1 (j := 11) (by decide) rfl tw_85 (Or.inl rfl) dX1_countOf_9 ?_
    refine q_iload_n (pc := 12) C dX1_countOf_12 rfl 1 rfl ?_
    obtain ⟨b1, hm⟩ := oi_some hm
    refine q_iald (pc := 13) C (by decide) (ce_46 _ _ _) (ty_46 _) b1 dX1_countOf_13 ?_
    refine q_goto (pc := 14) (tgt := 18) C dX1_countOf_14 (by decide) ?_
    cases hm
    exact q_iret (pc := 18) C dX1_countOf_18
set_option maxRecDepth 100000 in
theorem c_Te_kept {G : Gx} (hi : qinj (gad G)) {S : St} {a1 : Int32} {a2 : Int32} {r9 : Int32} (hm : m_Te_kept S a1 a2 = some r9) : QMet G yX8_kept cX8_kept 3 (some .int) 3 63 [.ref (gad G 0), .int a1, .int a2] S (some (.int r9)) S := by
  refine q_entry (by decide +kernel) rfl hi (by decide) ?_
  intro X C
  refine q_lv (lv' := [(0, .ref (gad G 0)), (1, .int a1), (2, .int a2)]) [0, 1, 2] rfl ?_
  unfold m_Te_kept at hm
  refine q_aload_n (pc := 0) C dX8_kept_0 rfl 0 rfl ?_
  refine q_iload_n (pc := 1) C dX8_kept_1 rfl 1 rfl ?_
  obtain ⟨u1, h1, hm⟩ := o1_some hm
  refine q_callV (pc := 2) (k := 0) (As := [.int a1]) (rest := []) (T := TX8) C (c_Te_checkThing hi h1) (by decide) (ce_0 _ _ _) (ci := 6) rfl tw_662 tw_663 tw_664 tw_2 tw_665 (by decide +kernel) (by decide) (by decide) rfl dX8_kept_2 ?_
  refine q_iload_n (pc := 5) C dX8_kept_5 rfl 2 rfl ?_
  refine q_iconst (pc := 6) (v := (4 : Int32)) C dX8_kept_6 (by decide) ?_
  obtain ⟨u2, h2, hm⟩ := o1_some hm
  refine q_callS (pc := 7) (As := [.int a2, .int (4 : Int32)]) (rest := []) C (c_Te_checkWhat hi h2) tw_667 tw_668 tw_2 tw_669 (by decide +kernel) (by decide) (by decide) rfl dX8_kept_7 ?_
  refine q_iload_n (pc := 10) C dX8_kept_10 rfl 2 rfl ?_
  by_cases c1 : a2 = (0 : Int32)
  · replace hm := hm_t c1 hm
    refine q_tableIn (pc := 11) (tgt := 40) C dX8_kept_11 (by rw [c1]; decide) (by rw [c1]; decide) (by rw [c1]; rfl) (by decide) ?_
    refine q_aload_n (pc := 40) C dX8_kept_40 rfl 0 rfl ?_
    refine q_get (pc := 41) (T := TX8) (v := .ref (gad G 18)) C (by decide) (ce_0 _ _ _) (ci := 6) rfl inlX8 (j := 1) (by decide) rfl tw_28 (Or.inl rfl) dX8_kept_41 ?_
    refine q_iload_n (pc := 44) C dX8_kept_44 rfl 1 rfl ?_
    obtain ⟨r1, h3, hm⟩ := o1_some hm
    refine q_callV (pc := 45) (k := 18) (As := [.int a1]) (rest := []) (T := TX4) C (c_Nur_ageOf hi h3) (by decide) (ce_18 _ _ _) (ci := 4) rfl tw_763 tw_764 tw_765 tw_16 tw_766 (by decide +kernel) (by decide) (by decide) rfl dX8_kept_45 ?_
    cases hm
    exact q_iret (pc := 48) C dX8_kept_48
  replace hm := hm_f c1 hm
  by_cases c2 : a2 = (1 : Int32)
  · replace hm := hm_t c2 hm
    refine q_tableIn (pc := 11) (tgt := 49) C dX8_kept_11 (by rw [c2]; decide) (by rw [c2]; decide) (by rw [c2]; rfl) (by decide) ?_
    refine q_aload_n (pc := 49) C dX8_kept_49 rfl 0 rfl ?_
    refine q_get (pc := 50) (T := TX8) (v := .ref (gad G 18)) C (by decide) (ce_0 _ _ _) (ci := 6) rfl inlX8 (j := 1) (by decide) rfl tw_28 (Or.inl rfl) dX8_kept_50 ?_
    refine q_iload_n (pc := 53) C dX8_kept_53 rfl 1 rfl ?_
    obtain ⟨r2, h4, hm⟩ := o1_some hm
    refine q_callU (pc := 54) (k := 18) (As := [.int a1]) (rest := []) (T := TX4) (owner := "Tessera$Store") (x := ⟨"Tessera$Nursery", "has", "(I)Z"⟩) C (c_St_has_18 hi h4) (by decide) (ce_18 _ _ _) (ci := 4) rfl (Or.inl rfl) tw_770 tw_768 tw_256 tw_769 tw_62 tw_257 (by decide +kernel) (by decide) (by decide) rfl dX8_kept_54 ?_
    refine q_if_eq (pc := 57) (tgt := 74) C dX8_kept_57 (by decide) (fun c3 => ?_) (fun c3 => ?_)
    · replace hm := hm_t c3 hm
      refine q_iconst (pc := 74) (v := (-1 : Int32)) C dX8_kept_74 (by decide) ?_
      cases hm
      exact q_iret (pc := 75) C dX8_kept_75
    · replace hm := hm_f c3 hm
      refine q_aload_n (pc := 60) C dX8_kept_60 rfl 0 rfl ?_
      refine q_get (pc := 61) (T := TX8) (v := .ref (gad G 18)) C (by decide) (ce_0 _ _ _) (ci := 6) rfl inlX8 (j := 1) (by decide) rfl tw_28 (Or.inl rfl) dX8_kept_61 ?_
      refine q_iload_n (pc := 64) C dX8_kept_64 rfl 1 rfl ?_
      obtain ⟨r3, h5, hm⟩ := o1_some hm
      refine q_callV (pc := 65) (k := 18) (As := [.int a1]) (rest := []) (T := TX4) C (c_Nur_isRemembered hi h5) (by decide) (ce_18 _ _ _) (ci := 4) rfl tw_771 tw_772 tw_773 tw_16 tw_774 (by decide +kernel) (by decide) (by decide) rfl dX8_kept_65 ?_
      obtain ⟨r4, h6, hm⟩ := o1_some hm
      refine q_callS (pc := 68) (As := [.int r3]) (rest := []) C (c_Te_asNumber hi h6) tw_671 tw_672 tw_2 tw_673 (by decide +kernel) (by decide) (by decide) rfl dX8_kept_68 ?_
      refine q_goto (pc := 71) (tgt := 75) C dX8_kept_71 (by decide) ?_
      cases hm
      exact q_iret (pc := 75) C dX8_kept_75
  replace hm := hm_f c2 hm
  by_cases c4 : a2 = (2 : Int32)
  · replace hm := hm_t c4 hm
    refine q_tableIn (pc := 11) (tgt := 76) C dX8_kept_11 (by rw [c4]; decide) (by rw [c4]; decide) (by rw [c4]; rfl) (by decide) ?_
    refine q_aload_n (pc := 76) C dX8_kept_76 rfl 0 rfl ?_
    refine q_get (pc := 77) (T := TX8) (v := .ref (gad G 31)) C (by decide) (ce_0 _ _ _) (ci := 6) rfl inlX8 (j := 2) (by decide) rfl tw_29 (Or.inl rfl) dX8_kept_77 ?_
    refine q_iload_n (pc := 80) C dX8_kept_80 rfl 1 rfl ?_
    obtain ⟨r5, h7, hm⟩ := o1_some hm
    refine q_callV (pc := 81) (k := 31) (As := [.int a1]) (rest := []) (T := TX3) C (c_Mar_colourOf hi h7) (by decide) (ce_31 _ _ _) (ci := 3) rfl tw_775 tw_432 tw_433 tw_19 tw_434 (by decide +kernel) (by decide) (by decide) rfl dX8_kept_81 ?_
    cases hm
    exact q_iret (pc := 84) C dX8_kept_84
  replace hm := hm_f c4 hm
  by_cases c5 : a2 = (3 : Int32)
  · replace hm := hm_t c5 hm
    refine q_tableIn (pc := 11) (tgt := 85) C dX8_kept_11 (by rw [c5]; decide) (by rw [c5]; decide) (by rw [c5]; rfl) (by decide) ?_
    refine q_aload_n (pc := 85) C dX8_kept_85 rfl 0 rfl ?_
    refine q_get (pc := 86) (T := TX8) (v := .ref (gad G 42)) C (by decide) (ce_0 _ _ _) (ci := 6) rfl inlX8 (j := 3) (by decide) rfl tw_30 (Or.inl rfl) dX8_kept_86 ?_
    refine q_iload_n (pc := 89) C dX8_kept_89 rfl 1 rfl ?_
    obtain ⟨r6, h8, hm⟩ := o1_some hm
    refine q_callV (pc := 90) (k := 42) (As := [.int a1]) (rest := []) (T := TX1) C (c_Cou_countOf hi h8) (by decide) (ce_42 _ _ _) (ci := 1) rfl tw_776 tw_777 tw_778 tw_22 tw_779 (by decide +kernel) (by decide) (by decide) rfl dX8_kept_90 ?_
    cases hm
    exact q_iret (pc := 93) C dX8_kept_93
  replace hm := hm_f c5 hm
  refine q_tableOut (pc := 11) (tgt := 94) C dX8_kept_11 (q_out 3 (by decide) [(0 : Int32), (1 : Int32), (2 : Int32), (3 : Int32)] (by decide) (by simp [c1, c2, c4, c5])) (by decide) ?_
  refine q_aload_n (pc := 94) C dX8_kept_94 rfl 0 rfl ?_
  refine q_get (pc := 95) (T := TX8) (v := .ref (gad G 42)) C (by decide) (ce_0 _ _ _) (ci := 6) rfl inlX8 (j := 3) (by decide) rfl tw_30 (Or.inl rfl) dX8_kept_95 ?_
  refine q_iload_n (pc := 98) C dX8_kept_98 rfl 1 rfl ?_
  obtain ⟨r7, h9, hm⟩ := o1_some hm
  refine q_callU (pc := 99) (k := 42) (As := [.int a1]) (rest := []) (T := TX1) (owner := "Tessera$Store") (x := ⟨"Tessera$Counting", "has", "(I)Z"⟩) C (c_St_has_42 hi h9) (by decide) (ce_42 _ _ _) (ci := 1) rfl (Or.inl rfl) tw_780 tw_366 tw_256 tw_367 tw_62 tw_257 (by decide +kernel) (by decide) (by decide) rfl dX8_kept_99 ?_
  refine q_if_eq (pc := 102) (tgt := 119) C dX8_kept_102 (by decide) (fun c6 => ?_) (fun c6 => ?_)
  · replace hm := hm_t c6 hm
    refine q_iconst (pc := 119) (v := (-1 : Int32)) C dX8_kept_119 (by decide) ?_
    cases hm
    exact q_iret (pc := 120) C dX8_kept_120
  · replace hm := hm_f c6 hm
    refine q_aload_n (pc := 105) C dX8_kept_105 rfl 0 rfl ?_
    refine q_get (pc := 106) (T := TX8) (v := .ref (gad G 42)) C (by decide) (ce_0 _ _ _) (ci := 6) rfl inlX8 (j := 3) (by decide) rfl tw_30 (Or.inl rfl) dX8_kept_106 ?_
    refine q_iload_n (pc := 109) C dX8_kept_109 rfl 1 rfl ?_
    obtain ⟨r8, h10, hm⟩ := o1_some hm
    refine q_callV (pc := 110) (k := 42) (As := [.int a1]) (rest := []) (T := TX1) C (c_Cou_isSuspect hi h10) (by decide) (ce_42 _ _ _) (ci := 1) rfl tw_781 tw_362 tw_363 tw_22 tw_364 (by decide +kernel) (by decide) (by decide) rfl dX8_kept_110 ?_
    obtain ⟨r9, h11, hm⟩ := o1_some hm
    refine q_callS (pc := 113) (As := [.int r8]) (rest := []) C (c_Te_asNumber hi h11) tw_671 tw_672 tw_2 tw_673 (by decide +kernel) (by decide) (by decide) rfl dX8_kept_113 ?_
    refine q_goto (pc := 116) (tgt := 120) C dX8_kept_116 (by decide) ?_
    cases hm
    exact q_iret (pc := 120) C dX8_kept_120
set_option maxRecDepth 100000 in
theorem c_Te_mixed {G : Gx} (hi : qinj (gad G)) {S : St} {a0 : Int64} {a2 : Int32} {r9 : Int64} (hm : m_Te_mixed S a0 a2 = some r9) : QMet G yX8_mixed cX8_mixed 3 (some .long) 0 0 [.long a0, .int a2] S (some (.long r9)) S := by
  refine q_entry (by decide +kernel) rfl hi (by decide) ?_
  intro X C
  refine q_lv (lv' := [(0, .long a0), (2, .int a2)]) [0, 1] rfl ?_
  unfold m_Te_mixed at hm
  refine q_lload_n (pc := 0) C dX8_mixed_0 rfl 0 rfl ?_
  refine q_ldc2 (pc := 1) (v := 31) C tw_790 dX8_mixed_1 ?_
  refine q_lmul (pc := 4) C dX8_mixed_4 ?_
  refine q_iload_n (pc := 5) C dX8_mixed_5 rfl 1 rfl ?_
  refine q_i2l (pc := 6) C dX8_mixed_6 ?_
  refine q_ladd (pc := 7) C dX8_mixed_7 ?_
  cases hm
  exact q_lret (pc := 8) C dX8_mixed_8
set_option maxRecDepth 100000 in
theorem w_Te_mixedThing_L35 {G : Gx} (hi : qinj (gad G)) {X : Cx} (C : QC G X cX8_mixedThing 7 RX8 4 85 (some .long)) {Q : State → Prop} : ∀ (n : Nat) (S : St) (v3 : Int32) (v4 : Int64) (v6 : Int32) (x4 : Int64), m_Te_mixedThing_L35 n S v3 v4 v6 = some x4 → QW G X 7 Q 71 [(0, .ref (gad G 0)), (3, .int v3), (4, .long x4)] [] S → QW G X 7 Q 35 [(0, .ref (gad G 0)), (3, .int v3), (4, .long v4), (6, .int v6)] [] S := by
  intro n
  induction n with
  | zero =>
    intro S v3 v4 v6 x4 hm kk
    rw [m_Te_mixedThing_L35] at hm
    cases hm
  | succ n ih =>
    intro S v3 v4 v6 x4 hm kk
    rw [m_Te_mixedThing_L35] at hm
    refine q_iload (pc := 35) C dX8_mixedThing_35 3 rfl ?_
    refine q_aload_n (pc := 37) C dX8_mixedThing_37 rfl 0 rfl ?_
    refine q_get (pc := 38) (T := TX8) (v := .ref (gad G 1)) C (by decide) (ce_0 _ _ _) (ci := 6) rfl inlX8 (j := 0) (by decide) rfl tw_27 (Or.inl rfl) dX8_mixedThing_38 ?_
    refine q_iload_n (pc := 41) C dX8_mixedThing_41 rfl 1 rfl ?_
    obtain ⟨r1, h1, hm⟩ := o1_some hm
    refine q_callV (pc := 42) (k := 1) (As := [.int v3]) (rest := [.int v6]) (T := TX2) C (c_Gr_fieldsOf hi h1) (by decide) (ce_1 _ _ _) (ci := 2) rfl tw_670 tw_279 tw_280 tw_13 tw_281 (by decide +kernel) (by decide) (by decide) rfl dX8_mixedThing_42 ?_
    refine q_icmp_ge (pc := 45) (tgt := 71) C dX8_mixedThing_45 (by decide) (fun c1 => ?_) (fun c1 => ?_)
    · replace hm := hm_t c1 hm
      cases hm
      refine q_lv (lv' := [(0, .ref (gad G 0)), (3, .int v3), (4, .long v4)]) [0, 1, 2] rfl ?_
      exact kk
    · replace hm := hm_f c1 hm
      refine q_lload (pc := 48) C dX8_mixedThing_48 2 rfl ?_
      refine q_aload_n (pc := 50) C dX8_mixedThing_50 rfl 0 rfl ?_
      refine q_get (pc := 51) (T := TX8) (v := .ref (gad G 1)) C (by decide) (ce_0 _ _ _) (ci := 6) rfl inlX8 (j := 0) (by decide) rfl tw_27 (Or.inl rfl) dX8_mixedThing_51 ?_
      refine q_iload_n (pc := 54) C dX8_mixedThing_54 rfl 1 rfl ?_
      refine q_iload (pc := 55) C dX8_mixedThing_55 3 rfl ?_
      obtain ⟨r2, h2, hm⟩ := o1_some hm
      refine q_callV (pc := 57) (k := 1) (As := [.int v3, .int v6]) (rest := [.long v4]) (T := TX2) C (c_Gr_nameOf hi h2) (by decide) (ce_1 _ _ _) (ci := 2) rfl tw_683 tw_283 tw_284 tw_13 tw_285 (by decide +kernel) (by decide) (by decide) rfl dX8_mixedThing_57 ?_
      obtain ⟨r3, h3, hm⟩ := o1_some hm
      refine q_callS (pc := 60) (As := [.long v4, .int r2]) (rest := []) C (c_Te_mixed hi h3) tw_787 tw_788 tw_2 tw_789 (by decide +kernel) (by decide) (by decide) rfl dX8_mixedThing_60 ?_
      refine q_lstore (pc := 63) (lv' := [(4, .long r3), (0, .ref (gad G 0)), (3, .int v3), (6, .int v6)]) C dX8_mixedThing_63 (by decide) rfl ?_
      refine q_iinc (pc := 65) (k := 3) (v := (v6 + (1 : Int32))) (lv' := [(6, .int (v6 + (1 : Int32))), (4, .long r3), (0, .ref (gad G 0)), (3, .int v3)]) C dX8_mixedThing_65 rfl rfl (by decide) rfl ?_
      refine q_goto (pc := 68) (tgt := 35) C dX8_mixedThing_68 (by decide) ?_
      refine q_lv (lv' := [(0, .ref (gad G 0)), (3, .int v3), (4, .long r3), (6, .int (v6 + (1 : Int32)))]) [2, 3, 1, 0] rfl ?_
      exact ih _ _ _ _ _ hm kk
set_option maxRecDepth 100000 in
theorem c_Te_mixedThing {G : Gx} (hi : qinj (gad G)) {S : St} {a1 : Int64} {a3 : Int32} {r9 : Int64} (hm : m_Te_mixedThing S a1 a3 = some r9) : QMet G yX8_mixedThing cX8_mixedThing 7 (some .long) 4 85 [.ref (gad G 0), .long a1, .int a3] S (some (.long r9)) S := by
  refine q_entry (by decide +kernel) rfl hi (by decide) ?_
  intro X C
  refine q_lv (lv' := [(0, .ref (gad G 0)), (1, .long a1), (3, .int a3)]) [0, 1, 2] rfl ?_
  unfold m_Te_mixedThing at hm
  refine q_lload_n (pc := 0) C dX8_mixedThing_0 rfl 1 rfl ?_
  refine q_lstore (pc := 1) (lv' := [(4, .long a1), (0, .ref (gad G 0)), (1, .long a1), (3, .int a3)]) C dX8_mixedThing_1 (by decide) rfl ?_
  refine q_iconst (pc := 3) (v := (0 : Int32)) C dX8_mixedThing_3 (by decide) ?_
  refine q_istore (pc := 4) (lv' := [(6, .int (0 : Int32)), (4, .long a1), (0, .ref (gad G 0)), (1, .long a1), (3, .int a3)]) C dX8_mixedThing_4 (by decide) rfl ?_
  refine q_iload (pc := 6) C dX8_mixedThing_6 0 rfl ?_
  refine q_iconst (pc := 8) (v := (2 : Int32)) C dX8_mixedThing_8 (by decide) ?_
  refine q_icmp_gt (pc := 9) (tgt := 32) C dX8_mixedThing_9 (by decide) (fun c => absurd c (by decide)) (fun _ => ?_)
  refine q_lload (pc := 12) C dX8_mixedThing_12 1 rfl ?_
  refine q_aload_n (pc := 14) C dX8_mixedThing_14 rfl 2 rfl ?_
  refine q_iload_n (pc := 15) C dX8_mixedThing_15 rfl 4 rfl ?_
  refine q_iload (pc := 16) C dX8_mixedThing_16 0 rfl ?_
  obtain ⟨r1, h1, hm⟩ := o1_some hm
  refine q_callV (pc := 18) (k := 0) (As := [.int a3, .int (0 : Int32)]) (rest := [.long a1]) (T := TX8) C (c_Te_ofThing hi h1) (by decide) (ce_0 _ _ _) (ci := 6) rfl tw_795 tw_659 tw_660 tw_2 tw_661 (by decide +kernel) (by decide) (by decide) rfl dX8_mixedThing_18 ?_
  obtain ⟨r2, h2, hm⟩ := o1_some hm
  refine q_callS (pc := 21) (As := [.long a1, .int r1]) (rest := []) C (c_Te_mixed hi h2) tw_787 tw_788 tw_2 tw_789 (by decide +kernel) (by decide) (by decide) rfl dX8_mixedThing_21 ?_
  refine q_lstore (pc := 24) (lv' := [(4, .long r2), (6, .int (0 : Int32)), (0, .ref (gad G 0)), (1, .long a1), (3, .int a3)]) C dX8_mixedThing_24 (by decide) rfl ?_
  refine q_iinc (pc := 26) (k := 1) (v := (1 : Int32)) (lv' := [(6, .int (1 : Int32)), (4, .long r2), (0, .ref (gad G 0)), (1, .long a1), (3, .int a3)]) C dX8_mixedThing_26 rfl (by decide) (by decide) rfl ?_
  refine q_goto (pc := 29) (tgt := 6) C dX8_mixedThing_29 (by decide) ?_
  refine q_iload (pc := 6) C dX8_mixedThing_6 0 rfl ?_
  refine q_iconst (pc := 8) (v := (2 : Int32)) C dX8_mixedThing_8 (by decide) ?_
  refine q_icmp_gt (pc := 9) (tgt := 32) C dX8_mixedThing_9 (by decide) (fun c => absurd c (by decide)) (fun _ => ?_)
  refine q_lload (pc := 12) C dX8_mixedThing_12 1 rfl ?_
  refine q_aload_n (pc := 14) C dX8_mixedThing_14 rfl 2 rfl ?_
  refine q_iload_n (pc := 15) C dX8_mixedThing_15 rfl 4 rfl ?_
  refine q_iload (pc := 16) C dX8_mixedThing_16 0 rfl ?_
  obtain ⟨r3, h3, hm⟩ := o1_some hm
  refine q_callV (pc := 18) (k := 0) (As := [.int a3, .int (1 : Int32)]) (rest := [.long r2]) (T := TX8) C (c_Te_ofThing hi h3) (by decide) (ce_0 _ _ _) (ci := 6) rfl tw_795 tw_659 tw_660 tw_2 tw_661 (by decide +kernel) (by decide) (by decide) rfl dX8_mixedThing_18 ?_
  obtain ⟨r4, h4, hm⟩ := o1_some hm
  refine q_callS (pc := 21) (As := [.long r2, .int r3]) (rest := []) C (c_Te_mixed hi h4) tw_787 tw_788 tw_2 tw_789 (by decide +kernel) (by decide) (by decide) rfl dX8_mixedThing_21 ?_
  refine q_lstore (pc := 24) (lv' := [(4, .long r4), (6, .int (1 : Int32)), (0, .ref (gad G 0)), (1, .long a1), (3, .int a3)]) C dX8_mixedThing_24 (by decide) rfl ?_
  refine q_iinc (pc := 26) (k := 1) (v := (2 : Int32)) (lv' := [(6, .int (2 : Int32)), (4, .long r4), (0, .ref (gad G 0)), (1, .long a1), (3, .int a3)]) C dX8_mixedThing_26 rfl (by decide) (by decide) rfl ?_
  refine q_goto (pc := 29) (tgt := 6) C dX8_mixedThing_29 (by decide) ?_
  refine q_iload (pc := 6) C dX8_mixedThing_6 0 rfl ?_
  refine q_iconst (pc := 8) (v := (2 : Int32)) C dX8_mixedThing_8 (by decide) ?_
  refine q_icmp_gt (pc := 9) (tgt := 32) C dX8_mixedThing_9 (by decide) (fun c => absurd c (by decide)) (fun _ => ?_)
  refine q_lload (pc := 12) C dX8_mixedThing_12 1 rfl ?_
  refine q_aload_n (pc := 14) C dX8_mixedThing_14 rfl 2 rfl ?_
  refine q_iload_n (pc := 15) C dX8_mixedThing_15 rfl 4 rfl ?_
  refine q_iload (pc := 16) C dX8_mixedThing_16 0 rfl ?_
  obtain ⟨r5, h5, hm⟩ := o1_some hm
  refine q_callV (pc := 18) (k := 0) (As := [.int a3, .int (2 : Int32)]) (rest := [.long r4]) (T := TX8) C (c_Te_ofThing hi h5) (by decide) (ce_0 _ _ _) (ci := 6) rfl tw_795 tw_659 tw_660 tw_2 tw_661 (by decide +kernel) (by decide) (by decide) rfl dX8_mixedThing_18 ?_
  obtain ⟨r6, h6, hm⟩ := o1_some hm
  refine q_callS (pc := 21) (As := [.long r4, .int r5]) (rest := []) C (c_Te_mixed hi h6) tw_787 tw_788 tw_2 tw_789 (by decide +kernel) (by decide) (by decide) rfl dX8_mixedThing_21 ?_
  refine q_lstore (pc := 24) (lv' := [(4, .long r6), (6, .int (2 : Int32)), (0, .ref (gad G 0)), (1, .long a1), (3, .int a3)]) C dX8_mixedThing_24 (by decide) rfl ?_
  refine q_iinc (pc := 26) (k := 1) (v := (3 : Int32)) (lv' := [(6, .int (3 : Int32)), (4, .long r6), (0, .ref (gad G 0)), (1, .long a1), (3, .int a3)]) C dX8_mixedThing_26 rfl (by decide) (by decide) rfl ?_
  refine q_goto (pc := 29) (tgt := 6) C dX8_mixedThing_29 (by decide) ?_
  refine q_iload (pc := 6) C dX8_mixedThing_6 0 rfl ?_
  refine q_iconst (pc := 8) (v := (2 : Int32)) C dX8_mixedThing_8 (by decide) ?_
  refine q_icmp_gt (pc := 9) (tgt := 32) C dX8_mixedThing_9 (by decide) (fun _ => ?_) (fun c => absurd c (by decide))
  refine q_iconst (pc := 32) (v := (0 : Int32)) C dX8_mixedThing_32 (by decide) ?_
  refine q_istore (pc := 33) (lv' := [(6, .int (0 : Int32)), (4, .long r6), (0, .ref (gad G 0)), (1, .long a1), (3, .int a3)]) C dX8_mixedThing_33 (by decide) rfl ?_
  refine q_lv (lv' := [(0, .ref (gad G 0)), (3, .int a3), (4, .long r6), (6, .int (0 : Int32))]) [2, 4, 1, 0] rfl ?_
  obtain ⟨y1, h7, hm⟩ := o1_some hm
  refine w_Te_mixedThing_L35 hi C 200 _ _ _ _ _ h7 ?_
  refine q_iconst (pc := 71) (v := (0 : Int32)) C dX8_mixedThing_71 (by decide) ?_
  refine q_istore (pc := 72) (lv' := [(6, .int (0 : Int32)), (0, .ref (gad G 0)), (3, .int a3), (4, .long y1)]) C dX8_mixedThing_72 (by decide) rfl ?_
  refine q_iload (pc := 74) C dX8_mixedThing_74 0 rfl ?_
  refine q_iconst (pc := 76) (v := (4 : Int32)) C dX8_mixedThing_76 (by decide) ?_
  refine q_icmp_ge (pc := 77) (tgt := 104) C dX8_mixedThing_77 (by decide) (fun c => absurd c (by decide)) (fun _ => ?_)
  refine q_lload (pc := 80) C dX8_mixedThing_80 3 rfl ?_
  refine q_aload_n (pc := 82) C dX8_mixedThing_82 rfl 1 rfl ?_
  refine q_get (pc := 83) (T := TX8) (v := .ref (gad G 58)) C (by decide) (ce_0 _ _ _) (ci := 6) rfl inlX8 (j := 4) (by decide) rfl tw_31 (Or.inl rfl) dX8_mixedThing_83 ?_
  refine q_iload (pc := 86) C dX8_mixedThing_86 0 rfl ?_
  refine q_aald (pc := 88) (k := 12) (n := 0) C (by decide) (by decide) rfl dX8_mixedThing_88 ?_
  refine q_iload_n (pc := 89) C dX8_mixedThing_89 rfl 2 rfl ?_
  obtain ⟨r7, h8, hm⟩ := o1_some hm
  refine q_callU (pc := 90) (k := 12) (As := [.int a3]) (rest := [.long y1]) (T := TX0) (owner := "Tessera$Store") (x := ⟨"Tessera$Store", "placeOf", "(I)I"⟩) C (c_St_placeOf_12 hi h8) (by decide) (ce_12 _ _ _) (ci := 0) rfl (Or.inl rfl) tw_753 tw_754 tw_341 tw_755 tw_62 tw_342 (by decide +kernel) (by decide) (by decide) rfl dX8_mixedThing_90 ?_
  obtain ⟨r8, h9, hm⟩ := o1_some hm
  refine q_callS (pc := 93) (As := [.long y1, .int r7]) (rest := []) C (c_Te_mixed hi h9) tw_787 tw_788 tw_2 tw_789 (by decide +kernel) (by decide) (by decide) rfl dX8_mixedThing_93 ?_
  refine q_lstore (pc := 96) (lv' := [(4, .long r8), (6, .int (0 : Int32)), (0, .ref (gad G 0)), (3, .int a3)]) C dX8_mixedThing_96 (by decide) rfl ?_
  refine q_iinc (pc := 98) (k := 1) (v := (1 : Int32)) (lv' := [(6, .int (1 : Int32)), (4, .long r8), (0, .ref (gad G 0)), (3, .int a3)]) C dX8_mixedThing_98 rfl (by decide) (by decide) rfl ?_
  refine q_goto (pc := 101) (tgt := 74) C dX8_mixedThing_101 (by decide) ?_
  refine q_iload (pc := 74) C dX8_mixedThing_74 0 rfl ?_
  refine q_iconst (pc := 76) (v := (4 : Int32)) C dX8_mixedThing_76 (by decide) ?_
  refine q_icmp_ge (pc := 77) (tgt := 104) C dX8_mixedThing_77 (by decide) (fun c => absurd c (by decide)) (fun _ => ?_)
  refine q_lload (pc := 80) C dX8_mixedThing_80 1 rfl ?_
  refine q_aload_n (pc := 82) C dX8_mixedThing_82 rfl 2 rfl ?_
  refine q_get (pc := 83) (T := TX8) (v := .ref (gad G 58)) C (by decide) (ce_0 _ _ _) (ci := 6) rfl inlX8 (j := 4) (by decide) rfl tw_31 (Or.inl rfl) dX8_mixedThing_83 ?_
  refine q_iload (pc := 86) C dX8_mixedThing_86 0 rfl ?_
  refine q_aald (pc := 88) (k := 18) (n := 1) C (by decide) (by decide) rfl dX8_mixedThing_88 ?_
  refine q_iload_n (pc := 89) C dX8_mixedThing_89 rfl 3 rfl ?_
  obtain ⟨r9, h10, hm⟩ := o1_some hm
  refine q_callU (pc := 90) (k := 18) (As := [.int a3]) (rest := [.long r8]) (T := TX4) (owner := "Tessera$Store") (x := ⟨"Tessera$Store", "placeOf", "(I)I"⟩) C (c_St_placeOf_18 hi h10) (by decide) (ce_18 _ _ _) (ci := 4) rfl (Or.inl rfl) tw_753 tw_754 tw_341 tw_758 tw_62 tw_342 (by decide +kernel) (by decide) (by decide) rfl dX8_mixedThing_90 ?_
  obtain ⟨r10, h11, hm⟩ := o1_some hm
  refine q_callS (pc := 93) (As := [.long r8, .int r9]) (rest := []) C (c_Te_mixed hi h11) tw_787 tw_788 tw_2 tw_789 (by decide +kernel) (by decide) (by decide) rfl dX8_mixedThing_93 ?_
  refine q_lstore (pc := 96) (lv' := [(4, .long r10), (6, .int (1 : Int32)), (0, .ref (gad G 0)), (3, .int a3)]) C dX8_mixedThing_96 (by decide) rfl ?_
  refine q_iinc (pc := 98) (k := 1) (v := (2 : Int32)) (lv' := [(6, .int (2 : Int32)), (4, .long r10), (0, .ref (gad G 0)), (3, .int a3)]) C dX8_mixedThing_98 rfl (by decide) (by decide) rfl ?_
  refine q_goto (pc := 101) (tgt := 74) C dX8_mixedThing_101 (by decide) ?_
  refine q_iload (pc := 74) C dX8_mixedThing_74 0 rfl ?_
  refine q_iconst (pc := 76) (v := (4 : Int32)) C dX8_mixedThing_76 (by decide) ?_
  refine q_icmp_ge (pc := 77) (tgt := 104) C dX8_mixedThing_77 (by decide) (fun c => absurd c (by decide)) (fun _ => ?_)
  refine q_lload (pc := 80) C dX8_mixedThing_80 1 rfl ?_
  refine q_aload_n (pc := 82) C dX8_mixedThing_82 rfl 2 rfl ?_
  refine q_get (pc := 83) (T := TX8) (v := .ref (gad G 58)) C (by decide) (ce_0 _ _ _) (ci := 6) rfl inlX8 (j := 4) (by decide) rfl tw_31 (Or.inl rfl) dX8_mixedThing_83 ?_
  refine q_iload (pc := 86) C dX8_mixedThing_86 0 rfl ?_
  refine q_aald (pc := 88) (k := 31) (n := 2) C (by decide) (by decide) rfl dX8_mixedThing_88 ?_
  refine q_iload_n (pc := 89) C dX8_mixedThing_89 rfl 3 rfl ?_
  obtain ⟨r11, h12, hm⟩ := o1_some hm
  refine q_callU (pc := 90) (k := 31) (As := [.int a3]) (rest := [.long r10]) (T := TX3) (owner := "Tessera$Store") (x := ⟨"Tessera$Store", "placeOf", "(I)I"⟩) C (c_St_placeOf_31 hi h12) (by decide) (ce_31 _ _ _) (ci := 3) rfl (Or.inl rfl) tw_753 tw_754 tw_341 tw_757 tw_62 tw_342 (by decide +kernel) (by decide) (by decide) rfl dX8_mixedThing_90 ?_
  obtain ⟨r12, h13, hm⟩ := o1_some hm
  refine q_callS (pc := 93) (As := [.long r10, .int r11]) (rest := []) C (c_Te_mixed hi h13) tw_787 tw_788 tw_2 tw_789 (by decide +kernel) (by decide) (by decide) rfl dX8_mixedThing_93 ?_
  refine q_lstore (pc := 96) (lv' := [(4, .long r12), (6, .int (2 : Int32)), (0, .ref (gad G 0)), (3, .int a3)]) C dX8_mixedThing_96 (by decide) rfl ?_
  refine q_iinc (pc := 98) (k := 1) (v := (3 : Int32)) (lv' := [(6, .int (3 : Int32)), (4, .long r12), (0, .ref (gad G 0)), (3, .int a3)]) C dX8_mixedThing_98 rfl (by decide) (by decide) rfl ?_
  refine q_goto (pc := 101) (tgt := 74) C dX8_mixedThing_101 (by decide) ?_
  refine q_iload (pc := 74) C dX8_mixedThing_74 0 rfl ?_
  refine q_iconst (pc := 76) (v := (4 : Int32)) C dX8_mixedThing_76 (by decide) ?_
  refine q_icmp_ge (pc := 77) (tgt := 104) C dX8_mixedThing_77 (by decide) (fun c => absurd c (by decide)) (fun _ => ?_)
  refine q_lload (pc := 80) C dX8_mixedThing_80 1 rfl ?_
  refine q_aload_n (pc := 82) C dX8_mixedThing_82 rfl 2 rfl ?_
  refine q_get (pc := 83) (T := TX8) (v := .ref (gad G 58)) C (by decide) (ce_0 _ _ _) (ci := 6) rfl inlX8 (j := 4) (by decide) rfl tw_31 (Or.inl rfl) dX8_mixedThing_83 ?_
  refine q_iload (pc := 86) C dX8_mixedThing_86 0 rfl ?_
  refine q_aald (pc := 88) (k := 42) (n := 3) C (by decide) (by decide) rfl dX8_mixedThing_88 ?_
  refine q_iload_n (pc := 89) C dX8_mixedThing_89 rfl 3 rfl ?_
  obtain ⟨r13, h14, hm⟩ := o1_some hm
  refine q_callU (pc := 90) (k := 42) (As := [.int a3]) (rest := [.long r12]) (T := TX1) (owner := "Tessera$Store") (x := ⟨"Tessera$Store", "placeOf", "(I)I"⟩) C (c_St_placeOf_42 hi h14) (by decide) (ce_42 _ _ _) (ci := 1) rfl (Or.inl rfl) tw_753 tw_754 tw_341 tw_756 tw_62 tw_342 (by decide +kernel) (by decide) (by decide) rfl dX8_mixedThing_90 ?_
  obtain ⟨r14, h15, hm⟩ := o1_some hm
  refine q_callS (pc := 93) (As := [.long r12, .int r13]) (rest := []) C (c_Te_mixed hi h15) tw_787 tw_788 tw_2 tw_789 (by decide +kernel) (by decide) (by decide) rfl dX8_mixedThing_93 ?_
  refine q_lstore (pc := 96) (lv' := [(4, .long r14), (6, .int (3 : Int32)), (0, .ref (gad G 0)), (3, .int a3)]) C dX8_mixedThing_96 (by decide) rfl ?_
  refine q_iinc (pc := 98) (k := 1) (v := (4 : Int32)) (lv' := [(6, .int (4 : Int32)), (4, .long r14), (0, .ref (gad G 0)), (3, .int a3)]) C dX8_mixedThing_98 rfl (by decide) (by decide) rfl ?_
  refine q_goto (pc := 101) (tgt := 74) C dX8_mixedThing_101 (by decide) ?_
  refine q_iload (pc := 74) C dX8_mixedThing_74 0 rfl ?_
  refine q_iconst (pc := 76) (v := (4 : Int32)) C dX8_mixedThing_76 (by decide) ?_
  refine q_icmp_ge (pc := 77) (tgt := 104) C dX8_mixedThing_77 (by decide) (fun _ => ?_) (fun c => absurd c (by decide))
  refine q_iconst (pc := 104) (v := (0 : Int32)) C dX8_mixedThing_104 (by decide) ?_
  refine q_istore (pc := 105) (lv' := [(6, .int (0 : Int32)), (4, .long r14), (0, .ref (gad G 0)), (3, .int a3)]) C dX8_mixedThing_105 (by decide) rfl ?_
  refine q_iload (pc := 107) C dX8_mixedThing_107 0 rfl ?_
  refine q_iconst (pc := 109) (v := (4 : Int32)) C dX8_mixedThing_109 (by decide) ?_
  refine q_icmp_gt (pc := 110) (tgt := 133) C dX8_mixedThing_110 (by decide) (fun c => absurd c (by decide)) (fun _ => ?_)
  refine q_lload (pc := 113) C dX8_mixedThing_113 1 rfl ?_
  refine q_aload_n (pc := 115) C dX8_mixedThing_115 rfl 2 rfl ?_
  refine q_iload_n (pc := 116) C dX8_mixedThing_116 rfl 3 rfl ?_
  refine q_iload (pc := 117) C dX8_mixedThing_117 0 rfl ?_
  obtain ⟨r15, h16, hm⟩ := o1_some hm
  refine q_callV (pc := 119) (k := 0) (As := [.int a3, .int (0 : Int32)]) (rest := [.long r14]) (T := TX8) C (c_Te_kept hi h16) (by decide) (ce_0 _ _ _) (ci := 6) rfl tw_796 tw_760 tw_761 tw_2 tw_762 (by decide +kernel) (by decide) (by decide) rfl dX8_mixedThing_119 ?_
  obtain ⟨r16, h17, hm⟩ := o1_some hm
  refine q_callS (pc := 122) (As := [.long r14, .int r15]) (rest := []) C (c_Te_mixed hi h17) tw_787 tw_788 tw_2 tw_789 (by decide +kernel) (by decide) (by decide) rfl dX8_mixedThing_122 ?_
  refine q_lstore (pc := 125) (lv' := [(4, .long r16), (6, .int (0 : Int32)), (0, .ref (gad G 0)), (3, .int a3)]) C dX8_mixedThing_125 (by decide) rfl ?_
  refine q_iinc (pc := 127) (k := 1) (v := (1 : Int32)) (lv' := [(6, .int (1 : Int32)), (4, .long r16), (0, .ref (gad G 0)), (3, .int a3)]) C dX8_mixedThing_127 rfl (by decide) (by decide) rfl ?_
  refine q_goto (pc := 130) (tgt := 107) C dX8_mixedThing_130 (by decide) ?_
  refine q_iload (pc := 107) C dX8_mixedThing_107 0 rfl ?_
  refine q_iconst (pc := 109) (v := (4 : Int32)) C dX8_mixedThing_109 (by decide) ?_
  refine q_icmp_gt (pc := 110) (tgt := 133) C dX8_mixedThing_110 (by decide) (fun c => absurd c (by decide)) (fun _ => ?_)
  refine q_lload (pc := 113) C dX8_mixedThing_113 1 rfl ?_
  refine q_aload_n (pc := 115) C dX8_mixedThing_115 rfl 2 rfl ?_
  refine q_iload_n (pc := 116) C dX8_mixedThing_116 rfl 3 rfl ?_
  refine q_iload (pc := 117) C dX8_mixedThing_117 0 rfl ?_
  obtain ⟨r17, h18, hm⟩ := o1_some hm
  refine q_callV (pc := 119) (k := 0) (As := [.int a3, .int (1 : Int32)]) (rest := [.long r16]) (T := TX8) C (c_Te_kept hi h18) (by decide) (ce_0 _ _ _) (ci := 6) rfl tw_796 tw_760 tw_761 tw_2 tw_762 (by decide +kernel) (by decide) (by decide) rfl dX8_mixedThing_119 ?_
  obtain ⟨r18, h19, hm⟩ := o1_some hm
  refine q_callS (pc := 122) (As := [.long r16, .int r17]) (rest := []) C (c_Te_mixed hi h19) tw_787 tw_788 tw_2 tw_789 (by decide +kernel) (by decide) (by decide) rfl dX8_mixedThing_122 ?_
  refine q_lstore (pc := 125) (lv' := [(4, .long r18), (6, .int (1 : Int32)), (0, .ref (gad G 0)), (3, .int a3)]) C dX8_mixedThing_125 (by decide) rfl ?_
  refine q_iinc (pc := 127) (k := 1) (v := (2 : Int32)) (lv' := [(6, .int (2 : Int32)), (4, .long r18), (0, .ref (gad G 0)), (3, .int a3)]) C dX8_mixedThing_127 rfl (by decide) (by decide) rfl ?_
  refine q_goto (pc := 130) (tgt := 107) C dX8_mixedThing_130 (by decide) ?_
  refine q_iload (pc := 107) C dX8_mixedThing_107 0 rfl ?_
  refine q_iconst (pc := 109) (v := (4 : Int32)) C dX8_mixedThing_109 (by decide) ?_
  refine q_icmp_gt (pc := 110) (tgt := 133) C dX8_mixedThing_110 (by decide) (fun c => absurd c (by decide)) (fun _ => ?_)
  refine q_lload (pc := 113) C dX8_mixedThing_113 1 rfl ?_
  refine q_aload_n (pc := 115) C dX8_mixedThing_115 rfl 2 rfl ?_
  refine q_iload_n (pc := 116) C dX8_mixedThing_116 rfl 3 rfl ?_
  refine q_iload (pc := 117) C dX8_mixedThing_117 0 rfl ?_
  obtain ⟨r19, h20, hm⟩ := o1_some hm
  refine q_callV (pc := 119) (k := 0) (As := [.int a3, .int (2 : Int32)]) (rest := [.long r18]) (T := TX8) C (c_Te_kept hi h20) (by decide) (ce_0 _ _ _) (ci := 6) rfl tw_796 tw_760 tw_761 tw_2 tw_762 (by decide +kernel) (by decide) (by decide) rfl dX8_mixedThing_119 ?_
  obtain ⟨r20, h21, hm⟩ := o1_some hm
  refine q_callS (pc := 122) (As := [.long r18, .int r19]) (rest := []) C (c_Te_mixed hi h21) tw_787 tw_788 tw_2 tw_789 (by decide +kernel) (by decide) (by decide) rfl dX8_mixedThing_122 ?_
  refine q_lstore (pc := 125) (lv' := [(4, .long r20), (6, .int (2 : Int32)), (0, .ref (gad G 0)), (3, .int a3)]) C dX8_mixedThing_125 (by decide) rfl ?_
  refine q_iinc (pc := 127) (k := 1) (v := (3 : Int32)) (lv' := [(6, .int (3 : Int32)), (4, .long r20), (0, .ref (gad G 0)), (3, .int a3)]) C dX8_mixedThing_127 rfl (by decide) (by decide) rfl ?_
  refine q_goto (pc := 130) (tgt := 107) C dX8_mixedThing_130 (by decide) ?_
  refine q_iload (pc := 107) C dX8_mixedThing_107 0 rfl ?_
  refine q_iconst (pc := 109) (v := (4 : Int32)) C dX8_mixedThing_109 (by decide) ?_
  refine q_icmp_gt (pc := 110) (tgt := 133) C dX8_mixedThing_110 (by decide) (fun c => absurd c (by decide)) (fun _ => ?_)
  refine q_lload (pc := 113) C dX8_mixedThing_113 1 rfl ?_
  refine q_aload_n (pc := 115) C dX8_mixedThing_115 rfl 2 rfl ?_
  refine q_iload_n (pc := 116) C dX8_mixedThing_116 rfl 3 rfl ?_
  refine q_iload (pc := 117) C dX8_mixedThing_117 0 rfl ?_
  obtain ⟨r21, h22, hm⟩ := o1_some hm
  refine q_callV (pc := 119) (k := 0) (As := [.int a3, .int (3 : Int32)]) (rest := [.long r20]) (T := TX8) C (c_Te_kept hi h22) (by decide) (ce_0 _ _ _) (ci := 6) rfl tw_796 tw_760 tw_761 tw_2 tw_762 (by decide +kernel) (by decide) (by decide) rfl dX8_mixedThing_119 ?_
  obtain ⟨r22, h23, hm⟩ := o1_some hm
  refine q_callS (pc := 122) (As := [.long r20, .int r21]) (rest := []) C (c_Te_mixed hi h23) tw_787 tw_788 tw_2 tw_789 (by decide +kernel) (by decide) (by decide) rfl dX8_mixedThing_122 ?_
  refine q_lstore (pc := 125) (lv' := [(4, .long r22), (6, .int (3 : Int32)), (0, .ref (gad G 0)), (3, .int a3)]) C dX8_mixedThing_125 (by decide) rfl ?_
  refine q_iinc (pc := 127) (k := 1) (v := (4 : Int32)) (lv' := [(6, .int (4 : Int32)), (4, .long r22), (0, .ref (gad G 0)), (3, .int a3)]) C dX8_mixedThing_127 rfl (by decide) (by decide) rfl ?_
  refine q_goto (pc := 130) (tgt := 107) C dX8_mixedThing_130 (by decide) ?_
  refine q_iload (pc := 107) C dX8_mixedThing_107 0 rfl ?_
  refine q_iconst (pc := 109) (v := (4 : Int32)) C dX8_mixedThing_109 (by decide) ?_
  refine q_icmp_gt (pc := 110) (tgt := 133) C dX8_mixedThing_110 (by decide) (fun c => absurd c (by decide)) (fun _ => ?_)
  refine q_lload (pc := 113) C dX8_mixedThing_113 1 rfl ?_
  refine q_aload_n (pc := 115) C dX8_mixedThing_115 rfl 2 rfl ?_
  refine q_iload_n (pc := 116) C dX8_mixedThing_116 rfl 3 rfl ?_
  refine q_iload (pc := 117) C dX8_mixedThing_117 0 rfl ?_
  obtain ⟨r23, h24, hm⟩ := o1_some hm
  refine q_callV (pc := 119) (k := 0) (As := [.int a3, .int (4 : Int32)]) (rest := [.long r22]) (T := TX8) C (c_Te_kept hi h24) (by decide) (ce_0 _ _ _) (ci := 6) rfl tw_796 tw_760 tw_761 tw_2 tw_762 (by decide +kernel) (by decide) (by decide) rfl dX8_mixedThing_119 ?_
  obtain ⟨r24, h25, hm⟩ := o1_some hm
  refine q_callS (pc := 122) (As := [.long r22, .int r23]) (rest := []) C (c_Te_mixed hi h25) tw_787 tw_788 tw_2 tw_789 (by decide +kernel) (by decide) (by decide) rfl dX8_mixedThing_122 ?_
  refine q_lstore (pc := 125) (lv' := [(4, .long r24), (6, .int (4 : Int32)), (0, .ref (gad G 0)), (3, .int a3)]) C dX8_mixedThing_125 (by decide) rfl ?_
  refine q_iinc (pc := 127) (k := 1) (v := (5 : Int32)) (lv' := [(6, .int (5 : Int32)), (4, .long r24), (0, .ref (gad G 0)), (3, .int a3)]) C dX8_mixedThing_127 rfl (by decide) (by decide) rfl ?_
  refine q_goto (pc := 130) (tgt := 107) C dX8_mixedThing_130 (by decide) ?_
  refine q_iload (pc := 107) C dX8_mixedThing_107 0 rfl ?_
  refine q_iconst (pc := 109) (v := (4 : Int32)) C dX8_mixedThing_109 (by decide) ?_
  refine q_icmp_gt (pc := 110) (tgt := 133) C dX8_mixedThing_110 (by decide) (fun _ => ?_) (fun c => absurd c (by decide))
  refine q_lload (pc := 133) C dX8_mixedThing_133 1 rfl ?_
  cases hm
  exact q_lret (pc := 135) C dX8_mixedThing_135
set_option maxRecDepth 100000 in
theorem c_Cop_countToGo {G : Gx} (hi : qinj (gad G)) {S : St}  {r9 : Int32} (hm : m_Cop_countToGo S  = some r9) : QMet G yX0_countToGo cX0_countToGo 1 (some .int) 2 43 [.ref (gad G 12)] S (some (.int r9)) S := by
  refine q_entry (by decide +kernel) rfl hi (by decide) ?_
  intro X C
  refine q_lv (lv' := [(0, .ref (gad G 12))]) [0] rfl ?_
  unfold m_Cop_countToGo at hm
  refine q_aload_n (pc := 0) C dX0_countToGo_0 rfl 0 rfl ?_
  obtain ⟨r1, h1, hm⟩ := o1_some hm
  refine q_callU (pc := 1) (k := 12) (As := []) (rest := []) (T := TX0) (owner := "Tessera$Store") (x := ⟨"Tessera$Copying", "countUnreached", "()I"⟩) C (c_St_countUnreached_12 hi h1) (by decide) (ce_12 _ _ _) (ci := 0) rfl (Or.inl rfl) tw_807 tw_808 tw_735 tw_809 tw_62 tw_736 (by decide +kernel) (by decide) (by decide) rfl dX0_countToGo_1 ?_
  cases hm
  exact q_iret (pc := 4) C dX0_countToGo_4
set_option maxRecDepth 100000 in
theorem c_Nur_countToGo {G : Gx} (hi : qinj (gad G)) {S : St}  {r9 : Int32} (hm : m_Nur_countToGo S  = some r9) : QMet G yX4_countToGo cX4_countToGo 1 (some .int) 3 63 [.ref (gad G 18)] S (some (.int r9)) S := by
  refine q_entry (by decide +kernel) rfl hi (by decide) ?_
  intro X C
  refine q_lv (lv' := [(0, .ref (gad G 18))]) [0] rfl ?_
  unfold m_Nur_countToGo at hm
  refine q_aload_n (pc := 0) C dX4_countToGo_0 rfl 0 rfl ?_
  obtain ⟨r1, h1, hm⟩ := o1_some hm
  refine q_callV (pc := 1) (k := 18) (As := []) (rest := []) (T := TX4) C (c_Nur_greatFits hi h1) (by decide) (ce_18 _ _ _) (ci := 4) rfl tw_516 tw_517 tw_518 tw_16 tw_519 (by decide +kernel) (by decide) (by decide) rfl dX4_countToGo_1 ?_
  refine q_if_eq (pc := 4) (tgt := 14) C dX4_countToGo_4 (by decide) (fun c1 => ?_) (fun c1 => ?_)
  · replace hm := hm_t c1 hm
    refine q_iconst (pc := 14) (v := (0 : Int32)) C dX4_countToGo_14 (by decide) ?_
    cases hm
    exact q_iret (pc := 15) C dX4_countToGo_15
  · replace hm := hm_f c1 hm
    refine q_aload_n (pc := 7) C dX4_countToGo_7 rfl 0 rfl ?_
    obtain ⟨r2, h2, hm⟩ := o1_some hm
    refine q_callU (pc := 8) (k := 18) (As := []) (rest := []) (T := TX4) (owner := "Tessera$Store") (x := ⟨"Tessera$Nursery", "countUnreached", "()I"⟩) C (c_St_countUnreached_18 hi h2) (by decide) (ce_18 _ _ _) (ci := 4) rfl (Or.inl rfl) tw_828 tw_829 tw_735 tw_830 tw_62 tw_736 (by decide +kernel) (by decide) (by decide) rfl dX4_countToGo_8 ?_
    refine q_goto (pc := 11) (tgt := 15) C dX4_countToGo_11 (by decide) ?_
    cases hm
    exact q_iret (pc := 15) C dX4_countToGo_15
set_option maxRecDepth 100000 in
theorem w_Row_empty_39_L2 {G : Gx} (hi : qinj (gad G)) {X : Cx} (C : QC G X cX5_empty 2 RX5 0 0 none) {Q : State → Prop} : ∀ (n : Nat) (S : St) (v1 : Int32) (S9 : St), m_Row_empty_L2 39 n S v1 = some S9 → QW G X 2 Q 21 [(0, .ref (gad G 39))] [] S9 → QW G X 2 Q 2 [(0, .ref (gad G 39)), (1, .int v1)] [] S := by
  intro n
  induction n with
  | zero =>
    intro S v1 S9 hm kk
    rw [m_Row_empty_L2] at hm
    cases hm
  | succ n ih =>
    intro S v1 S9 hm kk
    rw [m_Row_empty_L2] at hm
    refine q_iload_n (pc := 2) C dX5_empty_2 rfl 1 rfl ?_
    refine q_bipush (pc := 3) (v := (80 : Int32)) C dX5_empty_3 (by decide) ?_
    refine q_icmp_ge (pc := 5) (tgt := 21) C dX5_empty_5 (by decide) (fun c1 => ?_) (fun c1 => ?_)
    · replace hm := hm_t c1 hm
      cases hm
      refine q_lv (lv' := [(0, .ref (gad G 39))]) [0] rfl ?_
      exact kk
    · replace hm := hm_f c1 hm
      refine q_aload_n (pc := 8) C dX5_empty_8 rfl 0 rfl ?_
      refine q_get (pc := 9) (T := TX5) (v := .ref (gad G 41)) C (by decide) (ce_39 _ _ _) (ci := 5) rfl inlX5 (j := 1) (by decide) rfl tw_50 (Or.inl rfl) dX5_empty_9 ?_
      refine q_iload_n (pc := 12) C dX5_empty_12 rfl 1 rfl ?_
      refine q_iconst (pc := 13) (v := (0 : Int32)) C dX5_empty_13 (by decide) ?_
      obtain ⟨b1, hm⟩ := oi_some hm
      refine q_zast0 (pc := 14) C (by decide) (fun _ => ce_41 _ _ _) (ty_41 _) b1 dX5_empty_14 ?_
      refine q_iinc (pc := 15) (k := 1) (v := (v1 + (1 : Int32))) (lv' := [(1, .int (v1 + (1 : Int32))), (0, .ref (gad G 39))]) C dX5_empty_15 rfl rfl (by decide) rfl ?_
      refine q_goto (pc := 18) (tgt := 2) C dX5_empty_18 (by decide) ?_
      refine q_lv (lv' := [(0, .ref (gad G 39)), (1, .int (v1 + (1 : Int32)))]) [1, 0] rfl ?_
      exact ih _ _ _ hm kk
set_option maxRecDepth 100000 in
theorem c_Row_empty_39 {G : Gx} (hi : qinj (gad G)) {S : St}  {S9 : St} (hm : m_Row_empty 39 S  = some S9) : QMet G yX5_empty cX5_empty 2 none 0 0 [.ref (gad G 39)] S none S9 := by
  refine q_entry (by decide +kernel) rfl hi (by decide) ?_
  intro X C
  refine q_lv (lv' := [(0, .ref (gad G 39))]) [0] rfl ?_
  unfold m_Row_empty at hm
  refine q_iconst (pc := 0) (v := (0 : Int32)) C dX5_empty_0 (by decide) ?_
  refine q_istore_n (pc := 1) (lv' := [(1, .int (0 : Int32)), (0, .ref (gad G 39))]) C dX5_empty_1 rfl (by decide) rfl ?_
  refine q_lv (lv' := [(0, .ref (gad G 39)), (1, .int (0 : Int32))]) [1, 0] rfl ?_
  obtain ⟨S1, h1, hm⟩ := o1_some hm
  refine w_Row_empty_39_L2 hi C 200 _ _ _ h1 ?_
  refine q_aload_n (pc := 21) C dX5_empty_21 rfl 0 rfl ?_
  refine q_iconst (pc := 22) (v := (0 : Int32)) C dX5_empty_22 (by decide) ?_
  refine q_put (pc := 23) (T := TX5) (ty := .int) C tyX5 tyX5_ok nmX5 (by decide) (ce_39 _ _ _) (pe_39_2 _ _ _ _) (ci := 5) rfl inlX5 (j := 2) (by decide) (by decide) tw_127 (Or.inl rfl) rfl (by decide +kernel) rfl rfl dX5_empty_23 ?_
  cases hm
  exact q_vret (pc := 26) C dX5_empty_26
set_option maxRecDepth 100000 in
theorem c_Row_add_39 {G : Gx} (hi : qinj (gad G)) {S : St} {a1 : Int32} {S9 : St} (hm : m_Row_add 39 S a1 = some S9) : QMet G yX5_add cX5_add 2 none 0 0 [.ref (gad G 39), .int a1] S none S9 := by
  refine q_entry (by decide +kernel) rfl hi (by decide) ?_
  intro X C
  refine q_lv (lv' := [(0, .ref (gad G 39)), (1, .int a1)]) [0, 1] rfl ?_
  unfold m_Row_add at hm
  refine q_iload_n (pc := 0) C dX5_add_0 rfl 1 rfl ?_
  refine q_if_lt (pc := 1) (tgt := 28) C dX5_add_1 (by decide) (fun c1 => ?_) (fun c1 => ?_)
  · replace hm := hm_t c1 hm
    cases hm
    exact q_vret (pc := 28) C dX5_add_28
  · replace hm := hm_f c1 hm
    refine q_iload_n (pc := 4) C dX5_add_4 rfl 1 rfl ?_
    refine q_bipush (pc := 5) (v := (80 : Int32)) C dX5_add_5 (by decide) ?_
    refine q_icmp_ge (pc := 7) (tgt := 28) C dX5_add_7 (by decide) (fun c2 => ?_) (fun c2 => ?_)
    · replace hm := hm_t c2 hm
      cases hm
      exact q_vret (pc := 28) C dX5_add_28
    · replace hm := hm_f c2 hm
      refine q_aload_n (pc := 10) C dX5_add_10 rfl 0 rfl ?_
      refine q_get (pc := 11) (T := TX5) (v := .ref (gad G 41)) C (by decide) (ce_39 _ _ _) (ci := 5) rfl inlX5 (j := 1) (by decide) rfl tw_50 (Or.inl rfl) dX5_add_11 ?_
      refine q_iload_n (pc := 14) C dX5_add_14 rfl 1 rfl ?_
      obtain ⟨b1, hm⟩ := oi_some hm
      refine q_zald (pc := 15) C (by decide) (ce_41 _ _ _) (ty_41 _) b1 dX5_add_15 ?_
      refine q_if_ne (pc := 16) (tgt := 28) C dX5_add_16 (by decide) (fun c3 => ?_) (fun c3 => ?_)
      · replace hm := hm_f c3 hm
        cases hm
        exact q_vret (pc := 28) C dX5_add_28
      · replace hm := hm_t c3 hm
        refine q_aload_n (pc := 19) C dX5_add_19 rfl 0 rfl ?_
        refine q_get (pc := 20) (T := TX5) (v := .int (S 39 2)) C (by decide) (ce_39 _ _ _) (ci := 5) rfl inlX5 (j := 2) (by decide) rfl tw_127 (Or.inl rfl) dX5_add_20 ?_
        refine q_bipush (pc := 23) (v := (80 : Int32)) C dX5_add_23 (by decide) ?_
        refine q_icmp_lt (pc := 25) (tgt := 29) C dX5_add_25 (by decide) (fun c4 => ?_) (fun c4 => ?_)
        · replace hm := hm_t c4 hm
          refine q_aload_n (pc := 29) C dX5_add_29 rfl 0 rfl ?_
          refine q_get (pc := 30) (T := TX5) (v := .ref (gad G 41)) C (by decide) (ce_39 _ _ _) (ci := 5) rfl inlX5 (j := 1) (by decide) rfl tw_50 (Or.inl rfl) dX5_add_30 ?_
          refine q_iload_n (pc := 33) C dX5_add_33 rfl 1 rfl ?_
          refine q_iconst (pc := 34) (v := (1 : Int32)) C dX5_add_34 (by decide) ?_
          obtain ⟨b2, hm⟩ := oi_some hm
          refine q_zast1 (pc := 35) C (by decide) (fun _ => ce_41 _ _ _) (ty_41 _) b2 dX5_add_35 ?_
          refine q_aload_n (pc := 36) C dX5_add_36 rfl 0 rfl ?_
          refine q_get (pc := 37) (T := TX5) (v := .ref (gad G 40)) C (by decide) (ce_39 _ _ _) (ci := 5) rfl inlX5 (j := 0) (by decide) rfl tw_49 (Or.inl rfl) dX5_add_37 ?_
          refine q_aload_n (pc := 40) C dX5_add_40 rfl 0 rfl ?_
          refine q_get (pc := 41) (T := TX5) (v := .int (S 39 2)) C (by decide) (ce_39 _ _ _) (ci := 5) rfl inlX5 (j := 2) (by decide) rfl tw_127 (Or.inl rfl) dX5_add_41 ?_
          refine q_iload_n (pc := 44) C dX5_add_44 rfl 1 rfl ?_
          obtain ⟨b3, hm⟩ := oi_some hm
          refine q_iast (pc := 45) C (by decide) (fun _ => ce_40 _ _ _) (ty_40 _) b3 dX5_add_45 ?_
          refine q_aload_n (pc := 46) C dX5_add_46 rfl 0 rfl ?_
          refine q_dup (pc := 47) C dX5_add_47 rfl ?_
          refine q_get (pc := 48) (T := TX5) (v := .int (S 39 2)) C (by decide) (ce_39 _ _ _) (ci := 5) rfl inlX5 (j := 2) (by decide) rfl tw_127 (Or.inl rfl) dX5_add_48 ?_
          refine q_iconst (pc := 51) (v := (1 : Int32)) C dX5_add_51 (by decide) ?_
          refine q_iadd (pc := 52) C dX5_add_52 ?_
          refine q_put (pc := 53) (T := TX5) (ty := .int) C tyX5 tyX5_ok nmX5 (by decide) (ce_39 _ _ _) (pe_39_2 _ _ _ _) (ci := 5) rfl inlX5 (j := 2) (by decide) (by decide) tw_127 (Or.inl rfl) rfl (by decide +kernel) rfl rfl dX5_add_53 ?_
          cases hm
          exact q_vret (pc := 56) C dX5_add_56
        · replace hm := hm_f c4 hm
          cases hm
          exact q_vret (pc := 28) C dX5_add_28
set_option maxRecDepth 100000 in
theorem c_Mar_foreseeIfWhite {G : Gx} (hi : qinj (gad G)) {S : St} {a1 : Int32} {S9 : St} (hm : m_Mar_foreseeIfWhite S a1 = some S9) : QMet G yX3_foreseeIfWhite cX3_foreseeIfWhite 2 none 2 42 [.ref (gad G 31), .int a1] S none S9 := by
  refine q_entry (by decide +kernel) rfl hi (by decide) ?_
  intro X C
  refine q_lv (lv' := [(0, .ref (gad G 31)), (1, .int a1)]) [0, 1] rfl ?_
  unfold m_Mar_foreseeIfWhite at hm
  refine q_aload_n (pc := 0) C dX3_foreseeIfWhite_0 rfl 0 rfl ?_
  refine q_iload_n (pc := 1) C dX3_foreseeIfWhite_1 rfl 1 rfl ?_
  obtain ⟨r1, h1, hm⟩ := o1_some hm
  refine q_callV (pc := 2) (k := 31) (As := [.int a1]) (rest := []) (T := TX3) C (c_Mar_colourOf hi h1) (by decide) (ce_31 _ _ _) (ci := 3) rfl tw_431 tw_432 tw_433 tw_19 tw_434 (by decide +kernel) (by decide) (by decide) rfl dX3_foreseeIfWhite_2 ?_
  refine q_if_ne (pc := 5) (tgt := 16) C dX3_foreseeIfWhite_5 (by decide) (fun c1 => ?_) (fun c1 => ?_)
  · replace hm := hm_f c1 hm
    cases hm
    exact q_vret (pc := 16) C dX3_foreseeIfWhite_16
  · replace hm := hm_t c1 hm
    refine q_aload_n (pc := 8) C dX3_foreseeIfWhite_8 rfl 0 rfl ?_
    refine q_get (pc := 9) (T := TX3) (v := .ref (gad G 39)) C (by decide) (ce_31 _ _ _) (ci := 3) rfl inlX3 (j := 13) (by decide) rfl tw_75 (Or.inl rfl) dX3_foreseeIfWhite_9 ?_
    refine q_iload_n (pc := 12) C dX3_foreseeIfWhite_12 rfl 1 rfl ?_
    obtain ⟨S1, h2, hm⟩ := o1_some hm
    refine q_callV (pc := 13) (k := 39) (As := [.int a1]) (rest := []) (T := TX5) C (c_Row_add_39 hi h2) (by decide) (ce_39 _ _ _) (ci := 5) rfl tw_443 tw_267 tw_268 tw_43 tw_269 (by decide +kernel) (by decide) (by decide) rfl dX3_foreseeIfWhite_13 ?_
    cases hm
    exact q_vret (pc := 16) C dX3_foreseeIfWhite_16
set_option maxRecDepth 100000 in
theorem c_Row_get_39 {G : Gx} (hi : qinj (gad G)) {S : St} {a1 : Int32} {r9 : Int32} (hm : m_Row_get 39 S a1 = some r9) : QMet G yX5_get cX5_get 2 (some .int) 0 0 [.ref (gad G 39), .int a1] S (some (.int r9)) S := by
  refine q_entry (by decide +kernel) rfl hi (by decide) ?_
  intro X C
  refine q_lv (lv' := [(0, .ref (gad G 39)), (1, .int a1)]) [0, 1] rfl ?_
  unfold m_Row_get at hm
  refine q_iload_n (pc := 0) C dX5_get_0 rfl 1 rfl ?_
  refine q_if_lt (pc := 1) (tgt := 21) C dX5_get_1 (by decide) (fun c1 => ?_) (fun c1 => ?_)
  · replace hm := hm_t c1 hm
    refine q_iconst (pc := 21) (v := (-1 : Int32)) C dX5_get_21 (by decide) ?_
    cases hm
    exact q_iret (pc := 22) C dX5_get_22
  · replace hm := hm_f c1 hm
    refine q_iload_n (pc := 4) C dX5_get_4 rfl 1 rfl ?_
    refine q_aload_n (pc := 5) C dX5_get_5 rfl 0 rfl ?_
    refine q_get (pc := 6) (T := TX5) (v := .int (S 39 2)) C (by decide) (ce_39 _ _ _) (ci := 5) rfl inlX5 (j := 2) (by decide) rfl tw_127 (Or.inl rfl) dX5_get_6 ?_
    refine q_icmp_ge (pc := 9) (tgt := 21) C dX5_get_9 (by decide) (fun c2 => ?_) (fun c2 => ?_)
    · replace hm := hm_t c2 hm
      refine q_iconst (pc := 21) (v := (-1 : Int32)) C dX5_get_21 (by decide) ?_
      cases hm
      exact q_iret (pc := 22) C dX5_get_22
    · replace hm := hm_f c2 hm
      refine q_aload_n (pc := 12) C dX5_get_12 rfl 0 rfl ?_
      refine q_get (pc := 13) (T := TX5) (v := .ref (gad G 40)) C (by decide) (ce_39 _ _ _) (ci := 5) rfl inlX5 (j := 0) (by decide) rfl tw_49 (Or.inl rfl) dX5_get_13 ?_
      refine q_iload_n (pc := 16) C dX5_get_16 rfl 1 rfl ?_
      obtain ⟨b1, hm⟩ := oi_some hm
      refine q_iald (pc := 17) C (by decide) (ce_40 _ _ _) (ty_40 _) b1 dX5_get_17 ?_
      refine q_goto (pc := 18) (tgt := 22) C dX5_get_18 (by decide) ?_
      cases hm
      exact q_iret (pc := 22) C dX5_get_22
