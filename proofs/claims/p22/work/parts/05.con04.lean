set_option maxRecDepth 100000 in
theorem w_Nur_wordsGrown_L4 {G : Gx} (hi : qinj (gad G)) {X : Cx} (C : QC G X cX4_wordsGrown 3 RX4 2 42 (some .int)) {Q : State → Prop} : ∀ (n : Nat) (S : St) (v1 : Int32) (v2 : Int32) (x1 : Int32), m_Nur_wordsGrown_L4 n S v1 v2 = some x1 → QW G X 3 Q 58 [(1, .int x1)] [] S → QW G X 3 Q 4 [(0, .ref (gad G 18)), (1, .int v1), (2, .int v2)] [] S := by
  intro n
  induction n with
  | zero =>
    intro S v1 v2 x1 hm kk
    rw [m_Nur_wordsGrown_L4] at hm
    cases hm
  | succ n ih =>
    intro S v1 v2 x1 hm kk
    rw [m_Nur_wordsGrown_L4] at hm
    refine q_iload_n (pc := 4) C dX4_wordsGrown_4 rfl 2 rfl ?_
    refine q_aload_n (pc := 5) C dX4_wordsGrown_5 rfl 0 rfl ?_
    refine q_get (pc := 6) (T := TX4) (v := .ref (gad G 21)) C (by decide) (ce_18 _ _ _) (ci := 4) rfl inlX4 (j := 11) (by decide) rfl tw_55 (Or.inl rfl) dX4_wordsGrown_6 ?_
    refine q_get (pc := 9) (T := TX5) (v := .int (S 21 2)) C (by decide) (ce_21 _ _ _) (ci := 5) rfl inlX5 (j := 2) (by decide) rfl tw_497 (Or.inl rfl) dX4_wordsGrown_9 ?_
    refine q_icmp_ge (pc := 12) (tgt := 58) C dX4_wordsGrown_12 (by decide) (fun c1 => ?_) (fun c1 => ?_)
    · replace hm := hm_t c1 hm
      cases hm
      refine q_lv (lv' := [(1, .int v1)]) [1] rfl ?_
      exact kk
    · replace hm := hm_f c1 hm
      refine q_iload_n (pc := 15) C dX4_wordsGrown_15 rfl 1 rfl ?_
      refine q_aload_n (pc := 16) C dX4_wordsGrown_16 rfl 0 rfl ?_
      refine q_aload_n (pc := 17) C dX4_wordsGrown_17 rfl 0 rfl ?_
      refine q_get (pc := 18) (T := TX4) (v := .ref (gad G 21)) C (by decide) (ce_18 _ _ _) (ci := 4) rfl inlX4 (j := 11) (by decide) rfl tw_55 (Or.inl rfl) dX4_wordsGrown_18 ?_
      refine q_iload_n (pc := 21) C dX4_wordsGrown_21 rfl 2 rfl ?_
      obtain ⟨r1, h1, hm⟩ := o1_some hm
      refine q_callV (pc := 22) (k := 21) (As := [.int v2]) (rest := [.ref (gad G 18), .int v1]) (T := TX5) C (c_Row_get_21 hi h1) (by decide) (ce_21 _ _ _) (ci := 5) rfl tw_502 tw_271 tw_272 tw_43 tw_273 (nA := 1) (by decide +kernel) rfl (by decide) (Nat.le_of_ble_eq_true rfl) rfl dX4_wordsGrown_22 ?_
      obtain ⟨r2, h2, hm⟩ := o1_some hm
      refine q_callV (pc := 25) (k := 18) (As := [.int r1]) (rest := [.int v1]) (T := TX4) C (c_Nur_isGrown hi h2) (by decide) (ce_18 _ _ _) (ci := 4) rfl tw_503 tw_504 tw_505 tw_16 tw_506 (nA := 1) (by decide +kernel) rfl (by decide) (Nat.le_of_ble_eq_true rfl) rfl dX4_wordsGrown_25 ?_
      refine q_if_eq (pc := 28) (tgt := 49) C dX4_wordsGrown_28 (by decide) (fun c2 => ?_) (fun c2 => ?_)
      · replace hm := hm_t c2 hm
        refine q_iconst (pc := 49) (v := (0 : Int32)) C dX4_wordsGrown_49 (by decide) ?_
        refine q_iadd (pc := 50) C dX4_wordsGrown_50 ?_
        refine q_istore_n (pc := 51) (lv' := [(1, .int (v1 + (0 : Int32))), (0, .ref (gad G 18)), (2, .int v2)]) C dX4_wordsGrown_51 rfl (by decide) rfl ?_
        refine q_iinc (pc := 52) (k := 2) (v := (v2 + (1 : Int32))) (lv' := [(2, .int (v2 + (1 : Int32))), (1, .int (v1 + (0 : Int32))), (0, .ref (gad G 18))]) C dX4_wordsGrown_52 rfl rfl (by decide) rfl ?_
        refine q_goto (pc := 55) (tgt := 4) C dX4_wordsGrown_55 (by decide) ?_
        refine q_lv (lv' := [(0, .ref (gad G 18)), (1, .int (v1 + (0 : Int32))), (2, .int (v2 + (1 : Int32)))]) [2, 1, 0] rfl ?_
        exact ih _ _ _ _ hm kk
      · replace hm := hm_f c2 hm
        refine q_aload_n (pc := 31) C dX4_wordsGrown_31 rfl 0 rfl ?_
        refine q_get (pc := 32) (T := TX4) (v := .ref (gad G 1)) C (by decide) (ce_18 _ _ _) (ci := 4) rfl inlX4 (j := 0) (by decide) rfl tw_484 (Or.inr tw_485) dX4_wordsGrown_32 ?_
        refine q_aload_n (pc := 35) C dX4_wordsGrown_35 rfl 0 rfl ?_
        refine q_get (pc := 36) (T := TX4) (v := .ref (gad G 21)) C (by decide) (ce_18 _ _ _) (ci := 4) rfl inlX4 (j := 11) (by decide) rfl tw_55 (Or.inl rfl) dX4_wordsGrown_36 ?_
        refine q_iload_n (pc := 39) C dX4_wordsGrown_39 rfl 2 rfl ?_
        obtain ⟨r3, h3, hm⟩ := o1_some hm
        refine q_callV (pc := 40) (k := 21) (As := [.int v2]) (rest := [.ref (gad G 1), .int v1]) (T := TX5) C (c_Row_get_21 hi h3) (by decide) (ce_21 _ _ _) (ci := 5) rfl tw_502 tw_271 tw_272 tw_43 tw_273 (nA := 1) (by decide +kernel) rfl (by decide) (Nat.le_of_ble_eq_true rfl) rfl dX4_wordsGrown_40 ?_
        obtain ⟨r4, h4, hm⟩ := o1_some hm
        refine q_callV (pc := 43) (k := 1) (As := [.int r3]) (rest := [.int v1]) (T := TX2) C (c_Gr_wordsOf hi h4) (by decide) (ce_1 _ _ _) (ci := 2) rfl tw_488 tw_229 tw_230 tw_13 tw_231 (nA := 1) (by decide +kernel) rfl (by decide) (Nat.le_of_ble_eq_true rfl) rfl dX4_wordsGrown_43 ?_
        refine q_goto (pc := 46) (tgt := 50) C dX4_wordsGrown_46 (by decide) ?_
        refine q_iadd (pc := 50) C dX4_wordsGrown_50 ?_
        refine q_istore_n (pc := 51) (lv' := [(1, .int (v1 + r4)), (0, .ref (gad G 18)), (2, .int v2)]) C dX4_wordsGrown_51 rfl (by decide) rfl ?_
        refine q_iinc (pc := 52) (k := 2) (v := (v2 + (1 : Int32))) (lv' := [(2, .int (v2 + (1 : Int32))), (1, .int (v1 + r4)), (0, .ref (gad G 18))]) C dX4_wordsGrown_52 rfl rfl (by decide) rfl ?_
        refine q_goto (pc := 55) (tgt := 4) C dX4_wordsGrown_55 (by decide) ?_
        refine q_lv (lv' := [(0, .ref (gad G 18)), (1, .int (v1 + r4)), (2, .int (v2 + (1 : Int32)))]) [2, 1, 0] rfl ?_
        exact ih _ _ _ _ hm kk
set_option maxRecDepth 100000 in
theorem c_Nur_wordsGrown {G : Gx} (hi : qinj (gad G)) {S : St}  {zr : Int32} (hm : m_Nur_wordsGrown S  = some zr) : QMet G yX4_wordsGrown cX4_wordsGrown 3 (some .int) 2 42 [.ref (gad G 18)] S (some (.int zr)) S := by
  refine q_entry (by decide +kernel) rfl hi (Nat.le_of_ble_eq_true rfl) ?_
  intro X C
  refine q_lv (lv' := [(0, .ref (gad G 18))]) [0] rfl ?_
  unfold m_Nur_wordsGrown at hm
  refine q_iconst (pc := 0) (v := (0 : Int32)) C dX4_wordsGrown_0 (by decide) ?_
  refine q_istore_n (pc := 1) (lv' := [(1, .int (0 : Int32)), (0, .ref (gad G 18))]) C dX4_wordsGrown_1 rfl (by decide) rfl ?_
  refine q_iconst (pc := 2) (v := (0 : Int32)) C dX4_wordsGrown_2 (by decide) ?_
  refine q_istore_n (pc := 3) (lv' := [(2, .int (0 : Int32)), (1, .int (0 : Int32)), (0, .ref (gad G 18))]) C dX4_wordsGrown_3 rfl (by decide) rfl ?_
  refine q_lv (lv' := [(0, .ref (gad G 18)), (1, .int (0 : Int32)), (2, .int (0 : Int32))]) [2, 1, 0] rfl ?_
  obtain ⟨y1, h1, hm⟩ := o1_some hm
  refine w_Nur_wordsGrown_L4 hi C 200 _ _ _ _ h1 ?_
  refine q_iload_n (pc := 58) C dX4_wordsGrown_58 rfl 0 rfl ?_
  cases hm
  exact q_iret (pc := 59) C dX4_wordsGrown_59
set_option maxRecDepth 100000 in
theorem c_Row_holds_21 {G : Gx} (hi : qinj (gad G)) {S : St} {a1 : Int32} {zr : Int32} (hm : m_Row_holds 21 S a1 = some zr) : QMet G yX5_holds cX5_holds 2 (some .boolean) 0 0 [.ref (gad G 21), .int a1] S (some (.int zr)) S := by
  refine q_entry (by decide +kernel) rfl hi (Nat.le_of_ble_eq_true rfl) ?_
  intro X C
  refine q_lv (lv' := [(0, .ref (gad G 21)), (1, .int a1)]) [0, 1] rfl ?_
  unfold m_Row_holds at hm
  refine q_iload_n (pc := 0) C dX5_holds_0 rfl 1 rfl ?_
  refine q_if_lt (pc := 1) (tgt := 23) C dX5_holds_1 (by decide) (fun c1 => ?_) (fun c1 => ?_)
  · replace hm := hm_t c1 hm
    refine q_iconst (pc := 23) (v := (0 : Int32)) C dX5_holds_23 (by decide) ?_
    cases hm
    exact q_zret (pc := 24) C (by decide) dX5_holds_24
  · replace hm := hm_f c1 hm
    refine q_iload_n (pc := 4) C dX5_holds_4 rfl 1 rfl ?_
    refine q_bipush (pc := 5) (v := (80 : Int32)) C dX5_holds_5 (by decide) ?_
    refine q_icmp_ge (pc := 7) (tgt := 23) C dX5_holds_7 (by decide) (fun c2 => ?_) (fun c2 => ?_)
    · replace hm := hm_t c2 hm
      refine q_iconst (pc := 23) (v := (0 : Int32)) C dX5_holds_23 (by decide) ?_
      cases hm
      exact q_zret (pc := 24) C (by decide) dX5_holds_24
    · replace hm := hm_f c2 hm
      refine q_aload_n (pc := 10) C dX5_holds_10 rfl 0 rfl ?_
      refine q_get (pc := 11) (T := TX5) (v := .ref (gad G 23)) C (by decide) (ce_21 _ _ _) (ci := 5) rfl inlX5 (j := 1) (by decide) rfl tw_50 (Or.inl rfl) dX5_holds_11 ?_
      refine q_iload_n (pc := 14) C dX5_holds_14 rfl 1 rfl ?_
      obtain ⟨b1, hm⟩ := oi_some hm
      refine q_zald (pc := 15) C (by decide) (ce_23 _ _ _) (ty_23 _) b1 dX5_holds_15 ?_
      refine q_if_eq (pc := 16) (tgt := 23) C dX5_holds_16 (by decide) (fun c3 => ?_) (fun c3 => ?_)
      · replace hm := hm_t c3 hm
        refine q_iconst (pc := 23) (v := (0 : Int32)) C dX5_holds_23 (by decide) ?_
        cases hm
        exact q_zret (pc := 24) C (by decide) dX5_holds_24
      · replace hm := hm_f c3 hm
        refine q_iconst (pc := 19) (v := (1 : Int32)) C dX5_holds_19 (by decide) ?_
        refine q_goto (pc := 20) (tgt := 24) C dX5_holds_20 (by decide) ?_
        cases hm
        exact q_zret (pc := 24) C (by decide) dX5_holds_24
set_option maxRecDepth 100000 in
theorem c_Nur_addYoung {G : Gx} (hi : qinj (gad G)) {S : St} {a1 : Int32} {zS : St} (hm : m_Nur_addYoung S a1 = some zS) : QMet G yX4_addYoung cX4_addYoung 2 none 1 21 [.ref (gad G 18), .int a1] S none zS := by
  refine q_entry (by decide +kernel) rfl hi (Nat.le_of_ble_eq_true rfl) ?_
  intro X C
  refine q_lv (lv' := [(0, .ref (gad G 18)), (1, .int a1)]) [0, 1] rfl ?_
  unfold m_Nur_addYoung at hm
  refine q_aload_n (pc := 0) C dX4_addYoung_0 rfl 0 rfl ?_
  refine q_get (pc := 1) (T := TX4) (v := .ref (gad G 21)) C (by decide) (ce_18 _ _ _) (ci := 4) rfl inlX4 (j := 11) (by decide) rfl tw_55 (Or.inl rfl) dX4_addYoung_1 ?_
  refine q_iload_n (pc := 4) C dX4_addYoung_4 rfl 1 rfl ?_
  obtain ⟨r1, h1, hm⟩ := o1_some hm
  refine q_callV (pc := 5) (k := 21) (As := [.int a1]) (rest := []) (T := TX5) C (c_Row_holds_21 hi h1) (by decide) (ce_21 _ _ _) (ci := 5) rfl tw_567 tw_384 tw_385 tw_43 tw_386 (nA := 1) (by decide +kernel) rfl (by decide) (Nat.le_of_ble_eq_true rfl) rfl dX4_addYoung_5 ?_
  refine q_if_eq (pc := 8) (tgt := 19) C dX4_addYoung_8 (by decide) (fun c1 => ?_) (fun c1 => ?_)
  · replace hm := hm_t c1 hm
    cases hm
    exact q_vret (pc := 19) C dX4_addYoung_19
  · replace hm := hm_f c1 hm
    refine q_aload_n (pc := 11) C dX4_addYoung_11 rfl 0 rfl ?_
    refine q_get (pc := 12) (T := TX4) (v := .ref (gad G 27)) C (by decide) (ce_18 _ _ _) (ci := 4) rfl inlX4 (j := 13) (by decide) rfl tw_57 (Or.inl rfl) dX4_addYoung_12 ?_
    refine q_iload_n (pc := 15) C dX4_addYoung_15 rfl 1 rfl ?_
    obtain ⟨S1, h2, hm⟩ := o1_some hm
    refine q_callV (pc := 16) (k := 27) (As := [.int a1]) (rest := []) (T := TX5) C (c_Row_add_27 hi h2) (by decide) (ce_27 _ _ _) (ci := 5) rfl tw_544 tw_267 tw_268 tw_43 tw_269 (nA := 1) (by decide +kernel) rfl (by decide) (Nat.le_of_ble_eq_true rfl) rfl dX4_addYoung_16 ?_
    cases hm
    exact q_vret (pc := 19) C dX4_addYoung_19
set_option maxRecDepth 100000 in
theorem c_Row_holds_24 {G : Gx} (hi : qinj (gad G)) {S : St} {a1 : Int32} {zr : Int32} (hm : m_Row_holds 24 S a1 = some zr) : QMet G yX5_holds cX5_holds 2 (some .boolean) 0 0 [.ref (gad G 24), .int a1] S (some (.int zr)) S := by
  refine q_entry (by decide +kernel) rfl hi (Nat.le_of_ble_eq_true rfl) ?_
  intro X C
  refine q_lv (lv' := [(0, .ref (gad G 24)), (1, .int a1)]) [0, 1] rfl ?_
  unfold m_Row_holds at hm
  refine q_iload_n (pc := 0) C dX5_holds_0 rfl 1 rfl ?_
  refine q_if_lt (pc := 1) (tgt := 23) C dX5_holds_1 (by decide) (fun c1 => ?_) (fun c1 => ?_)
  · replace hm := hm_t c1 hm
    refine q_iconst (pc := 23) (v := (0 : Int32)) C dX5_holds_23 (by decide) ?_
    cases hm
    exact q_zret (pc := 24) C (by decide) dX5_holds_24
  · replace hm := hm_f c1 hm
    refine q_iload_n (pc := 4) C dX5_holds_4 rfl 1 rfl ?_
    refine q_bipush (pc := 5) (v := (80 : Int32)) C dX5_holds_5 (by decide) ?_
    refine q_icmp_ge (pc := 7) (tgt := 23) C dX5_holds_7 (by decide) (fun c2 => ?_) (fun c2 => ?_)
    · replace hm := hm_t c2 hm
      refine q_iconst (pc := 23) (v := (0 : Int32)) C dX5_holds_23 (by decide) ?_
      cases hm
      exact q_zret (pc := 24) C (by decide) dX5_holds_24
    · replace hm := hm_f c2 hm
      refine q_aload_n (pc := 10) C dX5_holds_10 rfl 0 rfl ?_
      refine q_get (pc := 11) (T := TX5) (v := .ref (gad G 26)) C (by decide) (ce_24 _ _ _) (ci := 5) rfl inlX5 (j := 1) (by decide) rfl tw_50 (Or.inl rfl) dX5_holds_11 ?_
      refine q_iload_n (pc := 14) C dX5_holds_14 rfl 1 rfl ?_
      obtain ⟨b1, hm⟩ := oi_some hm
      refine q_zald (pc := 15) C (by decide) (ce_26 _ _ _) (ty_26 _) b1 dX5_holds_15 ?_
      refine q_if_eq (pc := 16) (tgt := 23) C dX5_holds_16 (by decide) (fun c3 => ?_) (fun c3 => ?_)
      · replace hm := hm_t c3 hm
        refine q_iconst (pc := 23) (v := (0 : Int32)) C dX5_holds_23 (by decide) ?_
        cases hm
        exact q_zret (pc := 24) C (by decide) dX5_holds_24
      · replace hm := hm_f c3 hm
        refine q_iconst (pc := 19) (v := (1 : Int32)) C dX5_holds_19 (by decide) ?_
        refine q_goto (pc := 20) (tgt := 24) C dX5_holds_20 (by decide) ?_
        cases hm
        exact q_zret (pc := 24) C (by decide) dX5_holds_24
set_option maxRecDepth 100000 in
theorem w_Nur_addYoungNamedBy_L2 {G : Gx} (hi : qinj (gad G)) {X : Cx} (C : QC G X cX4_addYoungNamedBy 3 RX4 2 42 none) {Q : State → Prop} : ∀ (n : Nat) (S : St) (v1 : Int32) (v2 : Int32) (zS : St), m_Nur_addYoungNamedBy_L2 n S v1 v2 = some zS → QW G X 3 Q 33 [] [] zS → QW G X 3 Q 2 [(0, .ref (gad G 18)), (1, .int v1), (2, .int v2)] [] S := by
  intro n
  induction n with
  | zero =>
    intro S v1 v2 zS hm kk
    rw [m_Nur_addYoungNamedBy_L2] at hm
    cases hm
  | succ n ih =>
    intro S v1 v2 zS hm kk
    rw [m_Nur_addYoungNamedBy_L2] at hm
    refine q_iload_n (pc := 2) C dX4_addYoungNamedBy_2 rfl 2 rfl ?_
    refine q_aload_n (pc := 3) C dX4_addYoungNamedBy_3 rfl 0 rfl ?_
    refine q_get (pc := 4) (T := TX4) (v := .ref (gad G 1)) C (by decide) (ce_18 _ _ _) (ci := 4) rfl inlX4 (j := 0) (by decide) rfl tw_484 (Or.inr tw_485) dX4_addYoungNamedBy_4 ?_
    refine q_iload_n (pc := 7) C dX4_addYoungNamedBy_7 rfl 1 rfl ?_
    obtain ⟨r1, h1, hm⟩ := o1_some hm
    refine q_callV (pc := 8) (k := 1) (As := [.int v1]) (rest := [.int v2]) (T := TX2) C (c_Gr_fieldsOf hi h1) (by decide) (ce_1 _ _ _) (ci := 2) rfl tw_572 tw_279 tw_280 tw_13 tw_281 (nA := 1) (by decide +kernel) rfl (by decide) (Nat.le_of_ble_eq_true rfl) rfl dX4_addYoungNamedBy_8 ?_
    refine q_icmp_ge (pc := 11) (tgt := 33) C dX4_addYoungNamedBy_11 (by decide) (fun c1 => ?_) (fun c1 => ?_)
    · replace hm := hm_t c1 hm
      cases hm
      refine q_lv (lv' := []) [] rfl ?_
      exact kk
    · replace hm := hm_f c1 hm
      refine q_aload_n (pc := 14) C dX4_addYoungNamedBy_14 rfl 0 rfl ?_
      refine q_aload_n (pc := 15) C dX4_addYoungNamedBy_15 rfl 0 rfl ?_
      refine q_get (pc := 16) (T := TX4) (v := .ref (gad G 1)) C (by decide) (ce_18 _ _ _) (ci := 4) rfl inlX4 (j := 0) (by decide) rfl tw_484 (Or.inr tw_485) dX4_addYoungNamedBy_16 ?_
      refine q_iload_n (pc := 19) C dX4_addYoungNamedBy_19 rfl 1 rfl ?_
      refine q_iload_n (pc := 20) C dX4_addYoungNamedBy_20 rfl 2 rfl ?_
      obtain ⟨r2, h2, hm⟩ := o1_some hm
      refine q_callV (pc := 21) (k := 1) (As := [.int v1, .int v2]) (rest := [.ref (gad G 18)]) (T := TX2) C (c_Gr_nameOf hi h2) (by decide) (ce_1 _ _ _) (ci := 2) rfl tw_573 tw_283 tw_284 tw_13 tw_285 (nA := 2) (by decide +kernel) rfl (by decide) (Nat.le_of_ble_eq_true rfl) rfl dX4_addYoungNamedBy_21 ?_
      obtain ⟨S1, h3, hm⟩ := o1_some hm
      refine q_callV (pc := 24) (k := 18) (As := [.int r2]) (rest := []) (T := TX4) C (c_Nur_addYoung hi h3) (by decide) (ce_18 _ _ _) (ci := 4) rfl tw_563 tw_564 tw_565 tw_16 tw_566 (nA := 1) (by decide +kernel) rfl (by decide) (Nat.le_of_ble_eq_true rfl) rfl dX4_addYoungNamedBy_24 ?_
      refine q_iinc (pc := 27) (k := 2) (v := (v2 + (1 : Int32))) (lv' := [(2, .int (v2 + (1 : Int32))), (0, .ref (gad G 18)), (1, .int v1)]) C dX4_addYoungNamedBy_27 rfl rfl (by decide) rfl ?_
      refine q_goto (pc := 30) (tgt := 2) C dX4_addYoungNamedBy_30 (by decide) ?_
      refine q_lv (lv' := [(0, .ref (gad G 18)), (1, .int v1), (2, .int (v2 + (1 : Int32)))]) [1, 2, 0] rfl ?_
      exact ih _ _ _ _ hm kk
set_option maxRecDepth 100000 in
theorem c_Nur_addYoungNamedBy {G : Gx} (hi : qinj (gad G)) {S : St} {a1 : Int32} {zS : St} (hm : m_Nur_addYoungNamedBy S a1 = some zS) : QMet G yX4_addYoungNamedBy cX4_addYoungNamedBy 3 none 2 42 [.ref (gad G 18), .int a1] S none zS := by
  refine q_entry (by decide +kernel) rfl hi (Nat.le_of_ble_eq_true rfl) ?_
  intro X C
  refine q_lv (lv' := [(0, .ref (gad G 18)), (1, .int a1)]) [0, 1] rfl ?_
  unfold m_Nur_addYoungNamedBy at hm
  refine q_iconst (pc := 0) (v := (0 : Int32)) C dX4_addYoungNamedBy_0 (by decide) ?_
  refine q_istore_n (pc := 1) (lv' := [(2, .int (0 : Int32)), (0, .ref (gad G 18)), (1, .int a1)]) C dX4_addYoungNamedBy_1 rfl (by decide) rfl ?_
  refine q_lv (lv' := [(0, .ref (gad G 18)), (1, .int a1), (2, .int (0 : Int32))]) [1, 2, 0] rfl ?_
  obtain ⟨S1, h1, hm⟩ := o1_some hm
  refine w_Nur_addYoungNamedBy_L2 hi C 200 _ _ _ _ h1 ?_
  cases hm
  exact q_vret (pc := 33) C dX4_addYoungNamedBy_33
set_option maxRecDepth 100000 in
theorem w_Nur_findYoung_L9 {G : Gx} (hi : qinj (gad G)) {X : Cx} (C : QC G X cX4_findYoung 2 RX4 3 64 none) {Q : State → Prop} : ∀ (n : Nat) (S : St) (v1 : Int32) (zS : St), m_Nur_findYoung_L9 n S v1 = some zS → QW G X 2 Q 33 [(0, .ref (gad G 18))] [] zS → QW G X 2 Q 9 [(0, .ref (gad G 18)), (1, .int v1)] [] S := by
  intro n
  induction n with
  | zero =>
    intro S v1 zS hm kk
    rw [m_Nur_findYoung_L9] at hm
    cases hm
  | succ n ih =>
    intro S v1 zS hm kk
    rw [m_Nur_findYoung_L9] at hm
    refine q_iload_n (pc := 9) C dX4_findYoung_9 rfl 1 rfl ?_
    refine q_bipush (pc := 10) (v := (6 : Int32)) C dX4_findYoung_10 (by decide) ?_
    refine q_icmp_ge (pc := 12) (tgt := 33) C dX4_findYoung_12 (by decide) (fun c1 => ?_) (fun c1 => ?_)
    · replace hm := hm_t c1 hm
      cases hm
      refine q_lv (lv' := [(0, .ref (gad G 18))]) [0] rfl ?_
      exact kk
    · replace hm := hm_f c1 hm
      refine q_aload_n (pc := 15) C dX4_findYoung_15 rfl 0 rfl ?_
      refine q_aload_n (pc := 16) C dX4_findYoung_16 rfl 0 rfl ?_
      refine q_get (pc := 17) (T := TX4) (v := .ref (gad G 1)) C (by decide) (ce_18 _ _ _) (ci := 4) rfl inlX4 (j := 0) (by decide) rfl tw_484 (Or.inr tw_485) dX4_findYoung_17 ?_
      refine q_iload_n (pc := 20) C dX4_findYoung_20 rfl 1 rfl ?_
      obtain ⟨r1, h1, hm⟩ := o1_some hm
      refine q_callV (pc := 21) (k := 1) (As := [.int v1]) (rest := [.ref (gad G 18)]) (T := TX2) C (c_Gr_rootAt hi h1) (by decide) (ce_1 _ _ _) (ci := 2) rfl tw_562 tw_424 tw_425 tw_13 tw_426 (nA := 1) (by decide +kernel) rfl (by decide) (Nat.le_of_ble_eq_true rfl) rfl dX4_findYoung_21 ?_
      obtain ⟨S1, h2, hm⟩ := o1_some hm
      refine q_callV (pc := 24) (k := 18) (As := [.int r1]) (rest := []) (T := TX4) C (c_Nur_addYoung hi h2) (by decide) (ce_18 _ _ _) (ci := 4) rfl tw_563 tw_564 tw_565 tw_16 tw_566 (nA := 1) (by decide +kernel) rfl (by decide) (Nat.le_of_ble_eq_true rfl) rfl dX4_findYoung_24 ?_
      refine q_iinc (pc := 27) (k := 1) (v := (v1 + (1 : Int32))) (lv' := [(1, .int (v1 + (1 : Int32))), (0, .ref (gad G 18))]) C dX4_findYoung_27 rfl rfl (by decide) rfl ?_
      refine q_goto (pc := 30) (tgt := 9) C dX4_findYoung_30 (by decide) ?_
      refine q_lv (lv' := [(0, .ref (gad G 18)), (1, .int (v1 + (1 : Int32)))]) [1, 0] rfl ?_
      exact ih _ _ _ hm kk
set_option maxRecDepth 100000 in
theorem w_Nur_findYoung_L35 {G : Gx} (hi : qinj (gad G)) {X : Cx} (C : QC G X cX4_findYoung 2 RX4 3 64 none) {Q : State → Prop} : ∀ (n : Nat) (S : St) (v1 : Int32) (zS : St), m_Nur_findYoung_L35 n S v1 = some zS → QW G X 2 Q 68 [(0, .ref (gad G 18))] [] zS → QW G X 2 Q 35 [(0, .ref (gad G 18)), (1, .int v1)] [] S := by
  intro n
  induction n with
  | zero =>
    intro S v1 zS hm kk
    rw [m_Nur_findYoung_L35] at hm
    cases hm
  | succ n ih =>
    intro S v1 zS hm kk
    rw [m_Nur_findYoung_L35] at hm
    refine q_iload_n (pc := 35) C dX4_findYoung_35 rfl 1 rfl ?_
    refine q_aload_n (pc := 36) C dX4_findYoung_36 rfl 0 rfl ?_
    refine q_get (pc := 37) (T := TX4) (v := .ref (gad G 1)) C (by decide) (ce_18 _ _ _) (ci := 4) rfl inlX4 (j := 0) (by decide) rfl tw_484 (Or.inr tw_485) dX4_findYoung_37 ?_
    refine q_get (pc := 40) (T := TX2) (v := .int (S 1 6)) C (by decide) (ce_1 _ _ _) (ci := 2) rfl inlX2 (j := 6) (by decide) rfl tw_561 (Or.inl rfl) dX4_findYoung_40 ?_
    refine q_icmp_ge (pc := 43) (tgt := 68) C dX4_findYoung_43 (by decide) (fun c1 => ?_) (fun c1 => ?_)
    · replace hm := hm_t c1 hm
      cases hm
      refine q_lv (lv' := [(0, .ref (gad G 18))]) [0] rfl ?_
      exact kk
    · replace hm := hm_f c1 hm
      refine q_aload_n (pc := 46) C dX4_findYoung_46 rfl 0 rfl ?_
      refine q_get (pc := 47) (T := TX4) (v := .ref (gad G 24)) C (by decide) (ce_18 _ _ _) (ci := 4) rfl inlX4 (j := 12) (by decide) rfl tw_56 (Or.inl rfl) dX4_findYoung_47 ?_
      refine q_iload_n (pc := 50) C dX4_findYoung_50 rfl 1 rfl ?_
      obtain ⟨r1, h1, hm⟩ := o1_some hm
      refine q_callV (pc := 51) (k := 24) (As := [.int v1]) (rest := []) (T := TX5) C (c_Row_holds_24 hi h1) (by decide) (ce_24 _ _ _) (ci := 5) rfl tw_567 tw_384 tw_385 tw_43 tw_386 (nA := 1) (by decide +kernel) rfl (by decide) (Nat.le_of_ble_eq_true rfl) rfl dX4_findYoung_51 ?_
      refine q_if_eq (pc := 54) (tgt := 62) C dX4_findYoung_54 (by decide) (fun c2 => ?_) (fun c2 => ?_)
      · replace hm := hm_t c2 hm
        refine q_iinc (pc := 62) (k := 1) (v := (v1 + (1 : Int32))) (lv' := [(1, .int (v1 + (1 : Int32))), (0, .ref (gad G 18))]) C dX4_findYoung_62 rfl rfl (by decide) rfl ?_
        refine q_goto (pc := 65) (tgt := 35) C dX4_findYoung_65 (by decide) ?_
        refine q_lv (lv' := [(0, .ref (gad G 18)), (1, .int (v1 + (1 : Int32)))]) [1, 0] rfl ?_
        exact ih _ _ _ hm kk
      · replace hm := hm_f c2 hm
        refine q_aload_n (pc := 57) C dX4_findYoung_57 rfl 0 rfl ?_
        refine q_iload_n (pc := 58) C dX4_findYoung_58 rfl 1 rfl ?_
        obtain ⟨S1, h2, hm⟩ := o1_some hm
        refine q_callV (pc := 59) (k := 18) (As := [.int v1]) (rest := []) (T := TX4) C (c_Nur_addYoungNamedBy hi h2) (by decide) (ce_18 _ _ _) (ci := 4) rfl tw_568 tw_569 tw_570 tw_16 tw_571 (nA := 1) (by decide +kernel) rfl (by decide) (Nat.le_of_ble_eq_true rfl) rfl dX4_findYoung_59 ?_
        refine q_iinc (pc := 62) (k := 1) (v := (v1 + (1 : Int32))) (lv' := [(1, .int (v1 + (1 : Int32))), (0, .ref (gad G 18))]) C dX4_findYoung_62 rfl rfl (by decide) rfl ?_
        refine q_goto (pc := 65) (tgt := 35) C dX4_findYoung_65 (by decide) ?_
        refine q_lv (lv' := [(0, .ref (gad G 18)), (1, .int (v1 + (1 : Int32)))]) [1, 0] rfl ?_
        exact ih _ _ _ hm kk
set_option maxRecDepth 100000 in
theorem w_Nur_findYoung_L70 {G : Gx} (hi : qinj (gad G)) {X : Cx} (C : QC G X cX4_findYoung 2 RX4 3 64 none) {Q : State → Prop} : ∀ (n : Nat) (S : St) (v1 : Int32) (zS : St), m_Nur_findYoung_L70 n S v1 = some zS → QW G X 2 Q 105 [] [] zS → QW G X 2 Q 70 [(0, .ref (gad G 18)), (1, .int v1)] [] S := by
  intro n
  induction n with
  | zero =>
    intro S v1 zS hm kk
    rw [m_Nur_findYoung_L70] at hm
    cases hm
  | succ n ih =>
    intro S v1 zS hm kk
    rw [m_Nur_findYoung_L70] at hm
    refine q_iload_n (pc := 70) C dX4_findYoung_70 rfl 1 rfl ?_
    refine q_aload_n (pc := 71) C dX4_findYoung_71 rfl 0 rfl ?_
    refine q_get (pc := 72) (T := TX4) (v := .ref (gad G 27)) C (by decide) (ce_18 _ _ _) (ci := 4) rfl inlX4 (j := 13) (by decide) rfl tw_57 (Or.inl rfl) dX4_findYoung_72 ?_
    refine q_get (pc := 75) (T := TX5) (v := .int (S 27 2)) C (by decide) (ce_27 _ _ _) (ci := 5) rfl inlX5 (j := 2) (by decide) rfl tw_497 (Or.inl rfl) dX4_findYoung_75 ?_
    refine q_icmp_ge (pc := 78) (tgt := 105) C dX4_findYoung_78 (by decide) (fun c1 => ?_) (fun c1 => ?_)
    · replace hm := hm_t c1 hm
      cases hm
      refine q_lv (lv' := []) [] rfl ?_
      exact kk
    · replace hm := hm_f c1 hm
      refine q_iload_n (pc := 81) C dX4_findYoung_81 rfl 1 rfl ?_
      refine q_bipush (pc := 82) (v := (80 : Int32)) C dX4_findYoung_82 (by decide) ?_
      refine q_icmp_ge (pc := 84) (tgt := 105) C dX4_findYoung_84 (by decide) (fun c2 => ?_) (fun c2 => ?_)
      · replace hm := hm_t c2 hm
        cases hm
        refine q_lv (lv' := []) [] rfl ?_
        exact kk
      · replace hm := hm_f c2 hm
        refine q_aload_n (pc := 87) C dX4_findYoung_87 rfl 0 rfl ?_
        refine q_aload_n (pc := 88) C dX4_findYoung_88 rfl 0 rfl ?_
        refine q_get (pc := 89) (T := TX4) (v := .ref (gad G 27)) C (by decide) (ce_18 _ _ _) (ci := 4) rfl inlX4 (j := 13) (by decide) rfl tw_57 (Or.inl rfl) dX4_findYoung_89 ?_
        refine q_iload_n (pc := 92) C dX4_findYoung_92 rfl 1 rfl ?_
        obtain ⟨r1, h1, hm⟩ := o1_some hm
        refine q_callV (pc := 93) (k := 27) (As := [.int v1]) (rest := [.ref (gad G 18)]) (T := TX5) C (c_Row_get_27 hi h1) (by decide) (ce_27 _ _ _) (ci := 5) rfl tw_502 tw_271 tw_272 tw_43 tw_273 (nA := 1) (by decide +kernel) rfl (by decide) (Nat.le_of_ble_eq_true rfl) rfl dX4_findYoung_93 ?_
        obtain ⟨S1, h2, hm⟩ := o1_some hm
        refine q_callV (pc := 96) (k := 18) (As := [.int r1]) (rest := []) (T := TX4) C (c_Nur_addYoungNamedBy hi h2) (by decide) (ce_18 _ _ _) (ci := 4) rfl tw_568 tw_569 tw_570 tw_16 tw_571 (nA := 1) (by decide +kernel) rfl (by decide) (Nat.le_of_ble_eq_true rfl) rfl dX4_findYoung_96 ?_
        refine q_iinc (pc := 99) (k := 1) (v := (v1 + (1 : Int32))) (lv' := [(1, .int (v1 + (1 : Int32))), (0, .ref (gad G 18))]) C dX4_findYoung_99 rfl rfl (by decide) rfl ?_
        refine q_goto (pc := 102) (tgt := 70) C dX4_findYoung_102 (by decide) ?_
        refine q_lv (lv' := [(0, .ref (gad G 18)), (1, .int (v1 + (1 : Int32)))]) [1, 0] rfl ?_
        exact ih _ _ _ hm kk
set_option maxRecDepth 100000 in
theorem c_Nur_findYoung {G : Gx} (hi : qinj (gad G)) {S : St}  {zS : St} (hm : m_Nur_findYoung S  = some zS) : QMet G yX4_findYoung cX4_findYoung 2 none 3 64 [.ref (gad G 18)] S none zS := by
  refine q_entry (by decide +kernel) rfl hi (Nat.le_of_ble_eq_true rfl) ?_
  intro X C
  refine q_lv (lv' := [(0, .ref (gad G 18))]) [0] rfl ?_
  unfold m_Nur_findYoung at hm
  refine q_aload_n (pc := 0) C dX4_findYoung_0 rfl 0 rfl ?_
  refine q_get (pc := 1) (T := TX4) (v := .ref (gad G 27)) C (by decide) (ce_18 _ _ _) (ci := 4) rfl inlX4 (j := 13) (by decide) rfl tw_57 (Or.inl rfl) dX4_findYoung_1 ?_
  obtain ⟨S1, h1, hm⟩ := o1_some hm
  refine q_callV (pc := 4) (k := 27) (As := []) (rest := []) (T := TX5) C (c_Row_empty_27 hi h1) (by decide) (ce_27 _ _ _) (ci := 5) rfl tw_168 tw_124 tw_125 tw_43 tw_126 (nA := 0) (by decide +kernel) rfl (by decide) (Nat.le_of_ble_eq_true rfl) rfl dX4_findYoung_4 ?_
  refine q_iconst (pc := 7) (v := (0 : Int32)) C dX4_findYoung_7 (by decide) ?_
  refine q_istore_n (pc := 8) (lv' := [(1, .int (0 : Int32)), (0, .ref (gad G 18))]) C dX4_findYoung_8 rfl (by decide) rfl ?_
  refine q_lv (lv' := [(0, .ref (gad G 18)), (1, .int (0 : Int32))]) [1, 0] rfl ?_
  obtain ⟨S2, h2, hm⟩ := o1_some hm
  refine w_Nur_findYoung_L9 hi C 200 _ _ _ h2 ?_
  refine q_iconst (pc := 33) (v := (0 : Int32)) C dX4_findYoung_33 (by decide) ?_
  refine q_istore_n (pc := 34) (lv' := [(1, .int (0 : Int32)), (0, .ref (gad G 18))]) C dX4_findYoung_34 rfl (by decide) rfl ?_
  refine q_lv (lv' := [(0, .ref (gad G 18)), (1, .int (0 : Int32))]) [1, 0] rfl ?_
  obtain ⟨S3, h3, hm⟩ := o1_some hm
  refine w_Nur_findYoung_L35 hi C 200 _ _ _ h3 ?_
  refine q_iconst (pc := 68) (v := (0 : Int32)) C dX4_findYoung_68 (by decide) ?_
  refine q_istore_n (pc := 69) (lv' := [(1, .int (0 : Int32)), (0, .ref (gad G 18))]) C dX4_findYoung_69 rfl (by decide) rfl ?_
  refine q_lv (lv' := [(0, .ref (gad G 18)), (1, .int (0 : Int32))]) [1, 0] rfl ?_
  obtain ⟨S4, h4, hm⟩ := o1_some hm
  refine w_Nur_findYoung_L70 hi C 200 _ _ _ h4 ?_
  cases hm
  exact q_vret (pc := 105) C dX4_findYoung_105
set_option maxRecDepth 100000 in
theorem c_St_letGo_18 {G : Gx} (hi : qinj (gad G)) {S : St} {a1 : Int32} {zS : St} (hm : m_St_letGo 18 0 S a1 = some zS) : QMet G yX7_letGo cX7_letGo 2 none 0 0 [.ref (gad G 18), .int a1] S none zS := by
  refine q_entry (by decide +kernel) rfl hi (Nat.le_of_ble_eq_true rfl) ?_
  intro X C
  refine q_lv (lv' := [(0, .ref (gad G 18)), (1, .int a1)]) [0, 1] rfl ?_
  unfold m_St_letGo at hm
  refine q_iload_n (pc := 0) C dX7_letGo_0 rfl 1 rfl ?_
  refine q_if_lt (pc := 1) (tgt := 17) C dX7_letGo_1 (by decide) (fun c1 => ?_) (fun c1 => ?_)
  · replace hm := hm_t c1 hm
    cases hm
    exact q_vret (pc := 17) C dX7_letGo_17
  · replace hm := hm_f c1 hm
    refine q_iload_n (pc := 4) C dX7_letGo_4 rfl 1 rfl ?_
    refine q_bipush (pc := 5) (v := (80 : Int32)) C dX7_letGo_5 (by decide) ?_
    refine q_icmp_ge (pc := 7) (tgt := 17) C dX7_letGo_7 (by decide) (fun c2 => ?_) (fun c2 => ?_)
    · replace hm := hm_t c2 hm
      cases hm
      exact q_vret (pc := 17) C dX7_letGo_17
    · replace hm := hm_f c2 hm
      refine q_aload_n (pc := 10) C dX7_letGo_10 rfl 0 rfl ?_
      refine q_get (pc := 11) (T := TX4) (v := .ref (gad G 19)) C (by decide) (ce_18 _ _ _) (ci := 4) rfl inlX4 (j := 7) (by decide) rfl tw_65 (Or.inl rfl) dX7_letGo_11 ?_
      refine q_iload_n (pc := 14) C dX7_letGo_14 rfl 1 rfl ?_
      refine q_iconst (pc := 15) (v := (0 : Int32)) C dX7_letGo_15 (by decide) ?_
      obtain ⟨b1, hm⟩ := oi_some hm
      refine q_zast0 (pc := 16) C (by decide) (fun _ => ce_19 _ _ _) (ty_19 _) b1 dX7_letGo_16 ?_
      cases hm
      exact q_vret (pc := 17) C dX7_letGo_17
set_option maxRecDepth 100000 in
theorem c_Nur_moveFound {G : Gx} (hi : qinj (gad G)) {S : St} {a1 : Int32} {zS : St} (hm : m_Nur_moveFound S a1 = some zS) : QMet G yX4_moveFound cX4_moveFound 3 none 3 65 [.ref (gad G 18), .int a1] S none zS := by
  refine q_entry (by decide +kernel) rfl hi (Nat.le_of_ble_eq_true rfl) ?_
  intro X C
  refine q_lv (lv' := [(0, .ref (gad G 18)), (1, .int a1)]) [0, 1] rfl ?_
  unfold m_Nur_moveFound at hm
  refine q_aload_n (pc := 0) C dX4_moveFound_0 rfl 0 rfl ?_
  refine q_get (pc := 1) (T := TX4) (v := .ref (gad G 1)) C (by decide) (ce_18 _ _ _) (ci := 4) rfl inlX4 (j := 0) (by decide) rfl tw_484 (Or.inr tw_485) dX4_moveFound_1 ?_
  refine q_iload_n (pc := 4) C dX4_moveFound_4 rfl 1 rfl ?_
  obtain ⟨r1, h1, hm⟩ := o1_some hm
  refine q_callV (pc := 5) (k := 1) (As := [.int a1]) (rest := []) (T := TX2) C (c_Gr_wordsOf hi h1) (by decide) (ce_1 _ _ _) (ci := 2) rfl tw_488 tw_229 tw_230 tw_13 tw_231 (nA := 1) (by decide +kernel) rfl (by decide) (Nat.le_of_ble_eq_true rfl) rfl dX4_moveFound_5 ?_
  refine q_istore_n (pc := 8) (lv' := [(2, .int r1), (0, .ref (gad G 18)), (1, .int a1)]) C dX4_moveFound_8 rfl (by decide) rfl ?_
  refine q_aload_n (pc := 9) C dX4_moveFound_9 rfl 1 rfl ?_
  refine q_iload_n (pc := 10) C dX4_moveFound_10 rfl 2 rfl ?_
  obtain ⟨r2, h2, hm⟩ := o1_some hm
  refine q_callV (pc := 11) (k := 18) (As := [.int a1]) (rest := []) (T := TX4) C (c_Nur_isGrown hi h2) (by decide) (ce_18 _ _ _) (ci := 4) rfl tw_503 tw_504 tw_505 tw_16 tw_506 (nA := 1) (by decide +kernel) rfl (by decide) (Nat.le_of_ble_eq_true rfl) rfl dX4_moveFound_11 ?_
  refine q_if_eq (pc := 14) (tgt := 35) C dX4_moveFound_14 (by decide) (fun c1 => ?_) (fun c1 => ?_)
  · replace hm := hm_t c1 hm
    refine q_aload_n (pc := 35) C dX4_moveFound_35 rfl 1 rfl ?_
    refine q_iload_n (pc := 36) C dX4_moveFound_36 rfl 2 rfl ?_
    refine q_iconst (pc := 37) (v := (1 : Int32)) C dX4_moveFound_37 (by decide) ?_
    obtain ⟨S1, h3, hm⟩ := o1_some hm
    refine q_callV (pc := 38) (k := 18) (As := [.int a1, .int (1 : Int32)]) (rest := []) (T := TX4) C (c_Nur_putYoung hi h3) (by decide) (ce_18 _ _ _) (ci := 4) rfl tw_581 tw_582 tw_583 tw_16 tw_584 (nA := 2) (by decide +kernel) rfl (by decide) (Nat.le_of_ble_eq_true rfl) rfl dX4_moveFound_38 ?_
    refine q_aload_n (pc := 41) C dX4_moveFound_41 rfl 1 rfl ?_
    refine q_dup (pc := 42) C dX4_moveFound_42 rfl ?_
    refine q_get (pc := 43) (T := TX4) (v := .int (S1 18 2)) C (by decide) (ce_18 _ _ _) (ci := 4) rfl inlX4 (j := 2) (by decide) rfl tw_512 (Or.inr tw_513) dX4_moveFound_43 ?_
    refine q_iload_n (pc := 46) C dX4_moveFound_46 rfl 0 rfl ?_
    refine q_iadd (pc := 47) C dX4_moveFound_47 ?_
    refine q_put (pc := 48) (T := TX4) (ty := .int) C tyX4 tyX4_ok nmX4 (by decide) (ce_18 _ _ _) (pe_18_2 _ _ _ _) (ci := 4) rfl inlX4 (j := 2) (by decide) (Nat.le_of_ble_eq_true rfl) tw_512 (Or.inr tw_513) rfl (by decide +kernel) rfl rfl dX4_moveFound_48 ?_
    cases hm
    exact q_vret (pc := 51) C dX4_moveFound_51
  · replace hm := hm_f c1 hm
    refine q_aload_n (pc := 17) C dX4_moveFound_17 rfl 1 rfl ?_
    refine q_iload_n (pc := 18) C dX4_moveFound_18 rfl 2 rfl ?_
    obtain ⟨S2, h4, hm⟩ := o1_some hm
    refine q_callV (pc := 19) (k := 18) (As := [.int a1]) (rest := []) (T := TX4) C (c_Nur_putOld hi h4) (by decide) (ce_18 _ _ _) (ci := 4) rfl tw_550 tw_551 tw_552 tw_16 tw_553 (nA := 1) (by decide +kernel) rfl (by decide) (Nat.le_of_ble_eq_true rfl) rfl dX4_moveFound_19 ?_
    refine q_aload_n (pc := 22) C dX4_moveFound_22 rfl 1 rfl ?_
    refine q_dup (pc := 23) C dX4_moveFound_23 rfl ?_
    refine q_get (pc := 24) (T := TX4) (v := .int (S2 18 10)) C (by decide) (ce_18 _ _ _) (ci := 4) rfl inlX4 (j := 10) (by decide) rfl tw_184 (Or.inl rfl) dX4_moveFound_24 ?_
    refine q_iload_n (pc := 27) C dX4_moveFound_27 rfl 0 rfl ?_
    refine q_iadd (pc := 28) C dX4_moveFound_28 ?_
    refine q_put (pc := 29) (T := TX4) (ty := .int) C tyX4 tyX4_ok nmX4 (by decide) (ce_18 _ _ _) (pe_18_10 _ _ _ _) (ci := 4) rfl inlX4 (j := 10) (by decide) (Nat.le_of_ble_eq_true rfl) tw_184 (Or.inl rfl) rfl (by decide +kernel) rfl rfl dX4_moveFound_29 ?_
    refine q_goto (pc := 32) (tgt := 41) C dX4_moveFound_32 (by decide) ?_
    refine q_aload_n (pc := 41) C dX4_moveFound_41 rfl 1 rfl ?_
    refine q_dup (pc := 42) C dX4_moveFound_42 rfl ?_
    refine q_get (pc := 43) (T := TX4) (v := .int (S2 18 2)) C (by decide) (ce_18 _ _ _) (ci := 4) rfl inlX4 (j := 2) (by decide) rfl tw_512 (Or.inr tw_513) dX4_moveFound_43 ?_
    refine q_iload_n (pc := 46) C dX4_moveFound_46 rfl 0 rfl ?_
    refine q_iadd (pc := 47) C dX4_moveFound_47 ?_
    refine q_put (pc := 48) (T := TX4) (ty := .int) C tyX4 tyX4_ok nmX4 (by decide) (ce_18 _ _ _) (pe_18_2 _ _ _ _) (ci := 4) rfl inlX4 (j := 2) (by decide) (Nat.le_of_ble_eq_true rfl) tw_512 (Or.inr tw_513) rfl (by decide +kernel) rfl rfl dX4_moveFound_48 ?_
    cases hm
    exact q_vret (pc := 51) C dX4_moveFound_51
set_option maxRecDepth 100000 in
theorem w_Nur_cleanUpYoung_L44 {G : Gx} (hi : qinj (gad G)) {X : Cx} (C : QC G X cX4_cleanUpYoung 3 RX4 4 87 (some .int)) {Q : State → Prop} : ∀ (n : Nat) (S : St) (v1 : Int32) (v2 : Int32) (zS : St), m_Nur_cleanUpYoung_L44 n S v2 = some zS → QW G X 3 Q 73 [(0, .ref (gad G 18)), (1, .int v1)] [] zS → QW G X 3 Q 44 [(0, .ref (gad G 18)), (1, .int v1), (2, .int v2)] [] S := by
  intro n
  induction n with
  | zero =>
    intro S v1 v2 zS hm kk
    rw [m_Nur_cleanUpYoung_L44] at hm
    cases hm
  | succ n ih =>
    intro S v1 v2 zS hm kk
    rw [m_Nur_cleanUpYoung_L44] at hm
    refine q_iload_n (pc := 44) C dX4_cleanUpYoung_44 rfl 2 rfl ?_
    refine q_aload_n (pc := 45) C dX4_cleanUpYoung_45 rfl 0 rfl ?_
    refine q_get (pc := 46) (T := TX4) (v := .ref (gad G 21)) C (by decide) (ce_18 _ _ _) (ci := 4) rfl inlX4 (j := 11) (by decide) rfl tw_55 (Or.inl rfl) dX4_cleanUpYoung_46 ?_
    refine q_get (pc := 49) (T := TX5) (v := .int (S 21 2)) C (by decide) (ce_21 _ _ _) (ci := 5) rfl inlX5 (j := 2) (by decide) rfl tw_497 (Or.inl rfl) dX4_cleanUpYoung_49 ?_
    refine q_icmp_ge (pc := 52) (tgt := 73) C dX4_cleanUpYoung_52 (by decide) (fun c1 => ?_) (fun c1 => ?_)
    · replace hm := hm_t c1 hm
      cases hm
      refine q_lv (lv' := [(0, .ref (gad G 18)), (1, .int v1)]) [0, 1] rfl ?_
      exact kk
    · replace hm := hm_f c1 hm
      refine q_aload_n (pc := 55) C dX4_cleanUpYoung_55 rfl 0 rfl ?_
      refine q_aload_n (pc := 56) C dX4_cleanUpYoung_56 rfl 0 rfl ?_
      refine q_get (pc := 57) (T := TX4) (v := .ref (gad G 21)) C (by decide) (ce_18 _ _ _) (ci := 4) rfl inlX4 (j := 11) (by decide) rfl tw_55 (Or.inl rfl) dX4_cleanUpYoung_57 ?_
      refine q_iload_n (pc := 60) C dX4_cleanUpYoung_60 rfl 2 rfl ?_
      obtain ⟨r1, h1, hm⟩ := o1_some hm
      refine q_callV (pc := 61) (k := 21) (As := [.int v2]) (rest := [.ref (gad G 18)]) (T := TX5) C (c_Row_get_21 hi h1) (by decide) (ce_21 _ _ _) (ci := 5) rfl tw_502 tw_271 tw_272 tw_43 tw_273 (nA := 1) (by decide +kernel) rfl (by decide) (Nat.le_of_ble_eq_true rfl) rfl dX4_cleanUpYoung_61 ?_
      obtain ⟨S1, h2, hm⟩ := o1_some hm
      refine q_callU (pc := 64) (k := 18) (As := [.int r1]) (rest := []) (T := TX4) (owner := "Tessera$Store") (x := ⟨"Tessera$Nursery", "letGo", "(I)V"⟩) C (c_St_letGo_18 hi h2) (by decide) (ce_18 _ _ _) (ci := 4) rfl (Or.inl rfl) tw_574 tw_575 tw_394 tw_576 tw_62 tw_395 (nA := 1) (by decide +kernel) rfl (by decide) (Nat.le_of_ble_eq_true rfl) rfl dX4_cleanUpYoung_64 ?_
      refine q_iinc (pc := 67) (k := 2) (v := (v2 + (1 : Int32))) (lv' := [(2, .int (v2 + (1 : Int32))), (0, .ref (gad G 18)), (1, .int v1)]) C dX4_cleanUpYoung_67 rfl rfl (by decide) rfl ?_
      refine q_goto (pc := 70) (tgt := 44) C dX4_cleanUpYoung_70 (by decide) ?_
      refine q_lv (lv' := [(0, .ref (gad G 18)), (1, .int v1), (2, .int (v2 + (1 : Int32)))]) [1, 2, 0] rfl ?_
      exact ih _ _ _ _ hm kk
set_option maxRecDepth 100000 in
theorem w_Nur_cleanUpYoung_L87 {G : Gx} (hi : qinj (gad G)) {X : Cx} (C : QC G X cX4_cleanUpYoung 3 RX4 4 87 (some .int)) {Q : State → Prop} : ∀ (n : Nat) (S : St) (v1 : Int32) (v2 : Int32) (zS : St), m_Nur_cleanUpYoung_L87 n S v2 = some zS → QW G X 3 Q 116 [(0, .ref (gad G 18)), (1, .int v1)] [] zS → QW G X 3 Q 87 [(0, .ref (gad G 18)), (1, .int v1), (2, .int v2)] [] S := by
  intro n
  induction n with
  | zero =>
    intro S v1 v2 zS hm kk
    rw [m_Nur_cleanUpYoung_L87] at hm
    cases hm
  | succ n ih =>
    intro S v1 v2 zS hm kk
    rw [m_Nur_cleanUpYoung_L87] at hm
    refine q_iload_n (pc := 87) C dX4_cleanUpYoung_87 rfl 2 rfl ?_
    refine q_aload_n (pc := 88) C dX4_cleanUpYoung_88 rfl 0 rfl ?_
    refine q_get (pc := 89) (T := TX4) (v := .ref (gad G 27)) C (by decide) (ce_18 _ _ _) (ci := 4) rfl inlX4 (j := 13) (by decide) rfl tw_57 (Or.inl rfl) dX4_cleanUpYoung_89 ?_
    refine q_get (pc := 92) (T := TX5) (v := .int (S 27 2)) C (by decide) (ce_27 _ _ _) (ci := 5) rfl inlX5 (j := 2) (by decide) rfl tw_497 (Or.inl rfl) dX4_cleanUpYoung_92 ?_
    refine q_icmp_ge (pc := 95) (tgt := 116) C dX4_cleanUpYoung_95 (by decide) (fun c1 => ?_) (fun c1 => ?_)
    · replace hm := hm_t c1 hm
      cases hm
      refine q_lv (lv' := [(0, .ref (gad G 18)), (1, .int v1)]) [0, 1] rfl ?_
      exact kk
    · replace hm := hm_f c1 hm
      refine q_aload_n (pc := 98) C dX4_cleanUpYoung_98 rfl 0 rfl ?_
      refine q_aload_n (pc := 99) C dX4_cleanUpYoung_99 rfl 0 rfl ?_
      refine q_get (pc := 100) (T := TX4) (v := .ref (gad G 27)) C (by decide) (ce_18 _ _ _) (ci := 4) rfl inlX4 (j := 13) (by decide) rfl tw_57 (Or.inl rfl) dX4_cleanUpYoung_100 ?_
      refine q_iload_n (pc := 103) C dX4_cleanUpYoung_103 rfl 2 rfl ?_
      obtain ⟨r1, h1, hm⟩ := o1_some hm
      refine q_callV (pc := 104) (k := 27) (As := [.int v2]) (rest := [.ref (gad G 18)]) (T := TX5) C (c_Row_get_27 hi h1) (by decide) (ce_27 _ _ _) (ci := 5) rfl tw_502 tw_271 tw_272 tw_43 tw_273 (nA := 1) (by decide +kernel) rfl (by decide) (Nat.le_of_ble_eq_true rfl) rfl dX4_cleanUpYoung_104 ?_
      obtain ⟨S1, h2, hm⟩ := o1_some hm
      refine q_callV (pc := 107) (k := 18) (As := [.int r1]) (rest := []) (T := TX4) C (c_Nur_moveFound hi h2) (by decide) (ce_18 _ _ _) (ci := 4) rfl tw_577 tw_578 tw_579 tw_16 tw_580 (nA := 1) (by decide +kernel) rfl (by decide) (Nat.le_of_ble_eq_true rfl) rfl dX4_cleanUpYoung_107 ?_
      refine q_iinc (pc := 110) (k := 2) (v := (v2 + (1 : Int32))) (lv' := [(2, .int (v2 + (1 : Int32))), (0, .ref (gad G 18)), (1, .int v1)]) C dX4_cleanUpYoung_110 rfl rfl (by decide) rfl ?_
      refine q_goto (pc := 113) (tgt := 87) C dX4_cleanUpYoung_113 (by decide) ?_
      refine q_lv (lv' := [(0, .ref (gad G 18)), (1, .int v1), (2, .int (v2 + (1 : Int32)))]) [1, 2, 0] rfl ?_
      exact ih _ _ _ _ hm kk
set_option maxRecDepth 100000 in
theorem c_Nur_cleanUpYoung {G : Gx} (hi : qinj (gad G)) {S : St}  {zr : Int32} {zS : St} (hm : m_Nur_cleanUpYoung S  = some (zr, zS)) : QMet G yX4_cleanUpYoung cX4_cleanUpYoung 3 (some .int) 4 87 [.ref (gad G 18)] S (some (.int zr)) zS := by
  refine q_entry (by decide +kernel) rfl hi (Nat.le_of_ble_eq_true rfl) ?_
  intro X C
  refine q_lv (lv' := [(0, .ref (gad G 18))]) [0] rfl ?_
  unfold m_Nur_cleanUpYoung at hm
  refine q_aload_n (pc := 0) C dX4_cleanUpYoung_0 rfl 0 rfl ?_
  refine q_get (pc := 1) (T := TX4) (v := .int (S 18 5)) C (by decide) (ce_18 _ _ _) (ci := 4) rfl inlX4 (j := 5) (by decide) rfl tw_486 (Or.inr tw_487) dX4_cleanUpYoung_1 ?_
  refine q_if_eq (pc := 4) (tgt := 9) C dX4_cleanUpYoung_4 (by decide) (fun c1 => ?_) (fun c1 => ?_)
  · replace hm := hm_t c1 hm
    refine q_aload_n (pc := 9) C dX4_cleanUpYoung_9 rfl 0 rfl ?_
    obtain ⟨r1, h1, hm⟩ := o1_some hm
    refine q_callV (pc := 10) (k := 18) (As := []) (rest := []) (T := TX4) C (c_Nur_wordsGrown hi h1) (by decide) (ce_18 _ _ _) (ci := 4) rfl tw_498 tw_499 tw_500 tw_16 tw_501 (nA := 0) (by decide +kernel) rfl (by decide) (Nat.le_of_ble_eq_true rfl) rfl dX4_cleanUpYoung_10 ?_
    refine q_aload_n (pc := 13) C dX4_cleanUpYoung_13 rfl 0 rfl ?_
    refine q_get (pc := 14) (T := TX4) (v := .int (S 18 1)) C (by decide) (ce_18 _ _ _) (ci := 4) rfl inlX4 (j := 1) (by decide) rfl tw_166 (Or.inr tw_167) dX4_cleanUpYoung_14 ?_
    refine q_aload_n (pc := 17) C dX4_cleanUpYoung_17 rfl 0 rfl ?_
    refine q_get (pc := 18) (T := TX4) (v := .int (S 18 16)) C (by decide) (ce_18 _ _ _) (ci := 4) rfl inlX4 (j := 16) (by decide) rfl tw_59 (Or.inl rfl) dX4_cleanUpYoung_18 ?_
    refine q_isub (pc := 21) C dX4_cleanUpYoung_21 ?_
    refine q_icmp_le (pc := 22) (tgt := 30) C dX4_cleanUpYoung_22 (by decide) (fun c2 => ?_) (fun c2 => ?_)
    · replace hm := hm_t c2 hm
      refine q_aload_n (pc := 30) C dX4_cleanUpYoung_30 rfl 0 rfl ?_
      refine q_get (pc := 31) (T := TX4) (v := .ref (gad G 21)) C (by decide) (ce_18 _ _ _) (ci := 4) rfl inlX4 (j := 11) (by decide) rfl tw_55 (Or.inl rfl) dX4_cleanUpYoung_31 ?_
      refine q_get (pc := 34) (T := TX5) (v := .int (S 21 2)) C (by decide) (ce_21 _ _ _) (ci := 5) rfl inlX5 (j := 2) (by decide) rfl tw_497 (Or.inl rfl) dX4_cleanUpYoung_34 ?_
      refine q_istore_n (pc := 37) (lv' := [(1, .int (S 21 2)), (0, .ref (gad G 18))]) C dX4_cleanUpYoung_37 rfl (by decide) rfl ?_
      refine q_aload_n (pc := 38) C dX4_cleanUpYoung_38 rfl 1 rfl ?_
      obtain ⟨S1, h2, hm⟩ := o1_some hm
      refine q_callV (pc := 39) (k := 18) (As := []) (rest := []) (T := TX4) C (c_Nur_findYoung hi h2) (by decide) (ce_18 _ _ _) (ci := 4) rfl tw_557 tw_558 tw_559 tw_16 tw_560 (nA := 0) (by decide +kernel) rfl (by decide) (Nat.le_of_ble_eq_true rfl) rfl dX4_cleanUpYoung_39 ?_
      refine q_iconst (pc := 42) (v := (0 : Int32)) C dX4_cleanUpYoung_42 (by decide) ?_
      refine q_istore_n (pc := 43) (lv' := [(2, .int (0 : Int32)), (1, .int (S 21 2)), (0, .ref (gad G 18))]) C dX4_cleanUpYoung_43 rfl (by decide) rfl ?_
      refine q_lv (lv' := [(0, .ref (gad G 18)), (1, .int (S 21 2)), (2, .int (0 : Int32))]) [2, 1, 0] rfl ?_
      obtain ⟨S2, h3, hm⟩ := o1_some hm
      refine w_Nur_cleanUpYoung_L44 hi C 200 _ _ _ _ h3 ?_
      refine q_aload_n (pc := 73) C dX4_cleanUpYoung_73 rfl 0 rfl ?_
      refine q_get (pc := 74) (T := TX4) (v := .ref (gad G 21)) C (by decide) (ce_18 _ _ _) (ci := 4) rfl inlX4 (j := 11) (by decide) rfl tw_55 (Or.inl rfl) dX4_cleanUpYoung_74 ?_
      obtain ⟨S3, h4, hm⟩ := o1_some hm
      refine q_callV (pc := 77) (k := 21) (As := []) (rest := []) (T := TX5) C (c_Row_empty_21 hi h4) (by decide) (ce_21 _ _ _) (ci := 5) rfl tw_168 tw_124 tw_125 tw_43 tw_126 (nA := 0) (by decide +kernel) rfl (by decide) (Nat.le_of_ble_eq_true rfl) rfl dX4_cleanUpYoung_77 ?_
      refine q_aload_n (pc := 80) C dX4_cleanUpYoung_80 rfl 0 rfl ?_
      refine q_iconst (pc := 81) (v := (0 : Int32)) C dX4_cleanUpYoung_81 (by decide) ?_
      refine q_put (pc := 82) (T := TX4) (ty := .int) C tyX4 tyX4_ok nmX4 (by decide) (ce_18 _ _ _) (pe_18_15 _ _ _ _) (ci := 4) rfl inlX4 (j := 15) (by decide) (Nat.le_of_ble_eq_true rfl) tw_165 (Or.inl rfl) rfl (by decide +kernel) rfl rfl dX4_cleanUpYoung_82 ?_
      refine q_iconst (pc := 85) (v := (0 : Int32)) C dX4_cleanUpYoung_85 (by decide) ?_
      refine q_istore_n (pc := 86) (lv' := [(2, .int (0 : Int32)), (0, .ref (gad G 18)), (1, .int (S 21 2))]) C dX4_cleanUpYoung_86 rfl (by decide) rfl ?_
      refine q_lv (lv' := [(0, .ref (gad G 18)), (1, .int (S 21 2)), (2, .int (0 : Int32))]) [1, 2, 0] rfl ?_
      obtain ⟨S4, h5, hm⟩ := o1_some hm
      refine w_Nur_cleanUpYoung_L87 hi C 200 _ _ _ _ h5 ?_
      refine q_aload_n (pc := 116) C dX4_cleanUpYoung_116 rfl 0 rfl ?_
      refine q_dup (pc := 117) C dX4_cleanUpYoung_117 rfl ?_
      refine q_get (pc := 118) (T := TX4) (v := .int (S4 18 9)) C (by decide) (ce_18 _ _ _) (ci := 4) rfl inlX4 (j := 9) (by decide) rfl tw_183 (Or.inl rfl) dX4_cleanUpYoung_118 ?_
      refine q_iconst (pc := 121) (v := (1 : Int32)) C dX4_cleanUpYoung_121 (by decide) ?_
      refine q_iadd (pc := 122) C dX4_cleanUpYoung_122 ?_
      refine q_put (pc := 123) (T := TX4) (ty := .int) C tyX4 tyX4_ok nmX4 (by decide) (ce_18 _ _ _) (pe_18_9 _ _ _ _) (ci := 4) rfl inlX4 (j := 9) (by decide) (Nat.le_of_ble_eq_true rfl) tw_183 (Or.inl rfl) rfl (by decide +kernel) rfl rfl dX4_cleanUpYoung_123 ?_
      refine q_iload_n (pc := 126) C dX4_cleanUpYoung_126 rfl 1 rfl ?_
      refine q_aload_n (pc := 127) C dX4_cleanUpYoung_127 rfl 0 rfl ?_
      refine q_get (pc := 128) (T := TX4) (v := .ref (gad G 27)) C (by decide) (ce_18 _ _ _) (ci := 4) rfl inlX4 (j := 13) (by decide) rfl tw_57 (Or.inl rfl) dX4_cleanUpYoung_128 ?_
      refine q_get (pc := 131) (T := TX5) (v := .int (S4 27 2)) C (by decide) (ce_27 _ _ _) (ci := 5) rfl inlX5 (j := 2) (by decide) rfl tw_497 (Or.inl rfl) dX4_cleanUpYoung_131 ?_
      refine q_isub (pc := 134) C dX4_cleanUpYoung_134 ?_
      cases hm
      exact q_iret (pc := 135) C dX4_cleanUpYoung_135
    · replace hm := hm_f c2 hm
      refine q_aload_n (pc := 25) C dX4_cleanUpYoung_25 rfl 0 rfl ?_
      obtain ⟨r2, S5, h6, hm⟩ := ob_some hm
      refine q_callV (pc := 26) (k := 18) (As := []) (rest := []) (T := TX4) C (c_Nur_collectNow hi h6) (by decide) (ce_18 _ _ _) (ci := 4) rfl tw_508 tw_509 tw_510 tw_16 tw_511 (nA := 0) (by decide +kernel) rfl (by decide) (Nat.le_of_ble_eq_true rfl) rfl dX4_cleanUpYoung_26 ?_
      cases hm
      exact q_iret (pc := 29) C dX4_cleanUpYoung_29
  · replace hm := hm_f c1 hm
    refine q_iconst (pc := 7) (v := (0 : Int32)) C dX4_cleanUpYoung_7 (by decide) ?_
    cases hm
    exact q_iret (pc := 8) C dX4_cleanUpYoung_8
set_option maxRecDepth 100000 in
theorem c_Nur_placeNew {G : Gx} (hi : qinj (gad G)) {S : St} {a1 : Int32} {zS : St} (hm : m_Nur_placeNew S a1 = some zS) : QMet G yX4_placeNew cX4_placeNew 3 none 5 109 [.ref (gad G 18), .int a1] S none zS := by
  refine q_entry (by decide +kernel) rfl hi (Nat.le_of_ble_eq_true rfl) ?_
  intro X C
  refine q_lv (lv' := [(0, .ref (gad G 18)), (1, .int a1)]) [0, 1] rfl ?_
  unfold m_Nur_placeNew at hm
  refine q_aload_n (pc := 0) C dX4_placeNew_0 rfl 0 rfl ?_
  refine q_get (pc := 1) (T := TX4) (v := .ref (gad G 1)) C (by decide) (ce_18 _ _ _) (ci := 4) rfl inlX4 (j := 0) (by decide) rfl tw_484 (Or.inr tw_485) dX4_placeNew_1 ?_
  refine q_iload_n (pc := 4) C dX4_placeNew_4 rfl 1 rfl ?_
  obtain ⟨r1, h1, hm⟩ := o1_some hm
  refine q_callV (pc := 5) (k := 1) (As := [.int a1]) (rest := []) (T := TX2) C (c_Gr_wordsOf hi h1) (by decide) (ce_1 _ _ _) (ci := 2) rfl tw_488 tw_229 tw_230 tw_13 tw_231 (nA := 1) (by decide +kernel) rfl (by decide) (Nat.le_of_ble_eq_true rfl) rfl dX4_placeNew_5 ?_
  refine q_istore_n (pc := 8) (lv' := [(2, .int r1), (0, .ref (gad G 18)), (1, .int a1)]) C dX4_placeNew_8 rfl (by decide) rfl ?_
  refine q_iload_n (pc := 9) C dX4_placeNew_9 rfl 0 rfl ?_
  refine q_aload_n (pc := 10) C dX4_placeNew_10 rfl 1 rfl ?_
  obtain ⟨r2, h2, hm⟩ := o1_some hm
  refine q_callV (pc := 11) (k := 18) (As := []) (rest := [.int r1]) (T := TX4) C (c_Nur_freeTogether hi h2) (by decide) (ce_18 _ _ _) (ci := 4) rfl tw_489 tw_490 tw_491 tw_16 tw_492 (nA := 0) (by decide +kernel) rfl (by decide) (Nat.le_of_ble_eq_true rfl) rfl dX4_placeNew_11 ?_
  refine q_icmp_le (pc := 14) (tgt := 22) C dX4_placeNew_14 (by decide) (fun c1 => ?_) (fun c1 => ?_)
  · replace hm := hm_t c1 hm
    refine q_aload_n (pc := 22) C dX4_placeNew_22 rfl 1 rfl ?_
    refine q_get (pc := 23) (T := TX4) (v := .int (S 18 5)) C (by decide) (ce_18 _ _ _) (ci := 4) rfl inlX4 (j := 5) (by decide) rfl tw_486 (Or.inr tw_487) dX4_placeNew_23 ?_
    refine q_if_ne (pc := 26) (tgt := 42) C dX4_placeNew_26 (by decide) (fun c2 => ?_) (fun c2 => ?_)
    · replace hm := hm_f c2 hm
      refine q_aload_n (pc := 42) C dX4_placeNew_42 rfl 1 rfl ?_
      refine q_get (pc := 43) (T := TX4) (v := .int (S 18 5)) C (by decide) (ce_18 _ _ _) (ci := 4) rfl inlX4 (j := 5) (by decide) rfl tw_486 (Or.inr tw_487) dX4_placeNew_43 ?_
      refine q_if_ne (pc := 46) (tgt := 55) C dX4_placeNew_46 (by decide) (fun c3 => ?_) (fun c3 => ?_)
      · replace hm := hm_f c3 hm
        cases hm
        exact q_vret (pc := 55) C dX4_placeNew_55
      · replace hm := hm_t c3 hm
        refine q_aload_n (pc := 49) C dX4_placeNew_49 rfl 1 rfl ?_
        refine q_iload_n (pc := 50) C dX4_placeNew_50 rfl 2 rfl ?_
        refine q_iconst (pc := 51) (v := (0 : Int32)) C dX4_placeNew_51 (by decide) ?_
        obtain ⟨S1, h3, hm⟩ := o1_some hm
        refine q_callV (pc := 52) (k := 18) (As := [.int a1, .int (0 : Int32)]) (rest := []) (T := TX4) C (c_Nur_putYoung hi h3) (by decide) (ce_18 _ _ _) (ci := 4) rfl tw_581 tw_582 tw_583 tw_16 tw_584 (nA := 2) (by decide +kernel) rfl (by decide) (Nat.le_of_ble_eq_true rfl) rfl dX4_placeNew_52 ?_
        cases hm
        exact q_vret (pc := 55) C dX4_placeNew_55
    · replace hm := hm_t c2 hm
      refine q_iload_n (pc := 29) C dX4_placeNew_29 rfl 0 rfl ?_
      refine q_aload_n (pc := 30) C dX4_placeNew_30 rfl 1 rfl ?_
      obtain ⟨r3, h4, hm⟩ := o1_some hm
      refine q_callV (pc := 31) (k := 18) (As := []) (rest := [.int r1]) (T := TX4) C (c_Nur_freeTogether hi h4) (by decide) (ce_18 _ _ _) (ci := 4) rfl tw_489 tw_490 tw_491 tw_16 tw_492 (nA := 0) (by decide +kernel) rfl (by decide) (Nat.le_of_ble_eq_true rfl) rfl dX4_placeNew_31 ?_
      refine q_icmp_le (pc := 34) (tgt := 42) C dX4_placeNew_34 (by decide) (fun c4 => ?_) (fun c4 => ?_)
      · replace hm := hm_t c4 hm
        refine q_aload_n (pc := 42) C dX4_placeNew_42 rfl 1 rfl ?_
        refine q_get (pc := 43) (T := TX4) (v := .int (S 18 5)) C (by decide) (ce_18 _ _ _) (ci := 4) rfl inlX4 (j := 5) (by decide) rfl tw_486 (Or.inr tw_487) dX4_placeNew_43 ?_
        refine q_if_ne (pc := 46) (tgt := 55) C dX4_placeNew_46 (by decide) (fun c5 => ?_) (fun c5 => ?_)
        · replace hm := hm_f c5 hm
          cases hm
          exact q_vret (pc := 55) C dX4_placeNew_55
        · replace hm := hm_t c5 hm
          refine q_aload_n (pc := 49) C dX4_placeNew_49 rfl 1 rfl ?_
          refine q_iload_n (pc := 50) C dX4_placeNew_50 rfl 2 rfl ?_
          refine q_iconst (pc := 51) (v := (0 : Int32)) C dX4_placeNew_51 (by decide) ?_
          obtain ⟨S2, h5, hm⟩ := o1_some hm
          refine q_callV (pc := 52) (k := 18) (As := [.int a1, .int (0 : Int32)]) (rest := []) (T := TX4) C (c_Nur_putYoung hi h5) (by decide) (ce_18 _ _ _) (ci := 4) rfl tw_581 tw_582 tw_583 tw_16 tw_584 (nA := 2) (by decide +kernel) rfl (by decide) (Nat.le_of_ble_eq_true rfl) rfl dX4_placeNew_52 ?_
          cases hm
          exact q_vret (pc := 55) C dX4_placeNew_55
      · replace hm := hm_f c4 hm
        refine q_aload_n (pc := 37) C dX4_placeNew_37 rfl 1 rfl ?_
        obtain ⟨r4, S3, h6, hm⟩ := ob_some hm
        refine q_callV (pc := 38) (k := 18) (As := []) (rest := []) (T := TX4) C (c_Nur_collectNow hi h6) (by decide) (ce_18 _ _ _) (ci := 4) rfl tw_508 tw_509 tw_510 tw_16 tw_511 (nA := 0) (by decide +kernel) rfl (by decide) (Nat.le_of_ble_eq_true rfl) rfl dX4_placeNew_38 ?_
        refine q_pop (pc := 41) C dX4_placeNew_41 rfl ?_
        refine q_aload_n (pc := 42) C dX4_placeNew_42 rfl 1 rfl ?_
        refine q_get (pc := 43) (T := TX4) (v := .int (S3 18 5)) C (by decide) (ce_18 _ _ _) (ci := 4) rfl inlX4 (j := 5) (by decide) rfl tw_486 (Or.inr tw_487) dX4_placeNew_43 ?_
        refine q_if_ne (pc := 46) (tgt := 55) C dX4_placeNew_46 (by decide) (fun c6 => ?_) (fun c6 => ?_)
        · replace hm := hm_f c6 hm
          cases hm
          exact q_vret (pc := 55) C dX4_placeNew_55
        · replace hm := hm_t c6 hm
          refine q_aload_n (pc := 49) C dX4_placeNew_49 rfl 1 rfl ?_
          refine q_iload_n (pc := 50) C dX4_placeNew_50 rfl 2 rfl ?_
          refine q_iconst (pc := 51) (v := (0 : Int32)) C dX4_placeNew_51 (by decide) ?_
          obtain ⟨S4, h7, hm⟩ := o1_some hm
          refine q_callV (pc := 52) (k := 18) (As := [.int a1, .int (0 : Int32)]) (rest := []) (T := TX4) C (c_Nur_putYoung hi h7) (by decide) (ce_18 _ _ _) (ci := 4) rfl tw_581 tw_582 tw_583 tw_16 tw_584 (nA := 2) (by decide +kernel) rfl (by decide) (Nat.le_of_ble_eq_true rfl) rfl dX4_placeNew_52 ?_
          cases hm
          exact q_vret (pc := 55) C dX4_placeNew_55
  · replace hm := hm_f c1 hm
    refine q_aload_n (pc := 17) C dX4_placeNew_17 rfl 1 rfl ?_
    obtain ⟨r5, S5, h8, hm⟩ := ob_some hm
    refine q_callV (pc := 18) (k := 18) (As := []) (rest := []) (T := TX4) C (c_Nur_cleanUpYoung hi h8) (by decide) (ce_18 _ _ _) (ci := 4) rfl tw_493 tw_494 tw_495 tw_16 tw_496 (nA := 0) (by decide +kernel) rfl (by decide) (Nat.le_of_ble_eq_true rfl) rfl dX4_placeNew_18 ?_
    refine q_pop (pc := 21) C dX4_placeNew_21 rfl ?_
    refine q_aload_n (pc := 22) C dX4_placeNew_22 rfl 1 rfl ?_
    refine q_get (pc := 23) (T := TX4) (v := .int (S5 18 5)) C (by decide) (ce_18 _ _ _) (ci := 4) rfl inlX4 (j := 5) (by decide) rfl tw_486 (Or.inr tw_487) dX4_placeNew_23 ?_
    refine q_if_ne (pc := 26) (tgt := 42) C dX4_placeNew_26 (by decide) (fun c7 => ?_) (fun c7 => ?_)
    · replace hm := hm_f c7 hm
      refine q_aload_n (pc := 42) C dX4_placeNew_42 rfl 1 rfl ?_
      refine q_get (pc := 43) (T := TX4) (v := .int (S5 18 5)) C (by decide) (ce_18 _ _ _) (ci := 4) rfl inlX4 (j := 5) (by decide) rfl tw_486 (Or.inr tw_487) dX4_placeNew_43 ?_
      refine q_if_ne (pc := 46) (tgt := 55) C dX4_placeNew_46 (by decide) (fun c8 => ?_) (fun c8 => ?_)
      · replace hm := hm_f c8 hm
        cases hm
        exact q_vret (pc := 55) C dX4_placeNew_55
      · replace hm := hm_t c8 hm
        refine q_aload_n (pc := 49) C dX4_placeNew_49 rfl 1 rfl ?_
        refine q_iload_n (pc := 50) C dX4_placeNew_50 rfl 2 rfl ?_
        refine q_iconst (pc := 51) (v := (0 : Int32)) C dX4_placeNew_51 (by decide) ?_
        obtain ⟨S6, h9, hm⟩ := o1_some hm
        refine q_callV (pc := 52) (k := 18) (As := [.int a1, .int (0 : Int32)]) (rest := []) (T := TX4) C (c_Nur_putYoung hi h9) (by decide) (ce_18 _ _ _) (ci := 4) rfl tw_581 tw_582 tw_583 tw_16 tw_584 (nA := 2) (by decide +kernel) rfl (by decide) (Nat.le_of_ble_eq_true rfl) rfl dX4_placeNew_52 ?_
        cases hm
        exact q_vret (pc := 55) C dX4_placeNew_55
    · replace hm := hm_t c7 hm
      refine q_iload_n (pc := 29) C dX4_placeNew_29 rfl 0 rfl ?_
      refine q_aload_n (pc := 30) C dX4_placeNew_30 rfl 1 rfl ?_
      obtain ⟨r6, h10, hm⟩ := o1_some hm
      refine q_callV (pc := 31) (k := 18) (As := []) (rest := [.int r1]) (T := TX4) C (c_Nur_freeTogether hi h10) (by decide) (ce_18 _ _ _) (ci := 4) rfl tw_489 tw_490 tw_491 tw_16 tw_492 (nA := 0) (by decide +kernel) rfl (by decide) (Nat.le_of_ble_eq_true rfl) rfl dX4_placeNew_31 ?_
      refine q_icmp_le (pc := 34) (tgt := 42) C dX4_placeNew_34 (by decide) (fun c9 => ?_) (fun c9 => ?_)
      · replace hm := hm_t c9 hm
        refine q_aload_n (pc := 42) C dX4_placeNew_42 rfl 1 rfl ?_
        refine q_get (pc := 43) (T := TX4) (v := .int (S5 18 5)) C (by decide) (ce_18 _ _ _) (ci := 4) rfl inlX4 (j := 5) (by decide) rfl tw_486 (Or.inr tw_487) dX4_placeNew_43 ?_
        refine q_if_ne (pc := 46) (tgt := 55) C dX4_placeNew_46 (by decide) (fun c10 => ?_) (fun c10 => ?_)
        · replace hm := hm_f c10 hm
          cases hm
          exact q_vret (pc := 55) C dX4_placeNew_55
        · replace hm := hm_t c10 hm
          refine q_aload_n (pc := 49) C dX4_placeNew_49 rfl 1 rfl ?_
          refine q_iload_n (pc := 50) C dX4_placeNew_50 rfl 2 rfl ?_
          refine q_iconst (pc := 51) (v := (0 : Int32)) C dX4_placeNew_51 (by decide) ?_
          obtain ⟨S7, h11, hm⟩ := o1_some hm
          refine q_callV (pc := 52) (k := 18) (As := [.int a1, .int (0 : Int32)]) (rest := []) (T := TX4) C (c_Nur_putYoung hi h11) (by decide) (ce_18 _ _ _) (ci := 4) rfl tw_581 tw_582 tw_583 tw_16 tw_584 (nA := 2) (by decide +kernel) rfl (by decide) (Nat.le_of_ble_eq_true rfl) rfl dX4_placeNew_52 ?_
          cases hm
          exact q_vret (pc := 55) C dX4_placeNew_55
      · replace hm := hm_f c9 hm
        refine q_aload_n (pc := 37) C dX4_placeNew_37 rfl 1 rfl ?_
        obtain ⟨r7, S8, h12, hm⟩ := ob_some hm
        refine q_callV (pc := 38) (k := 18) (As := []) (rest := []) (T := TX4) C (c_Nur_collectNow hi h12) (by decide) (ce_18 _ _ _) (ci := 4) rfl tw_508 tw_509 tw_510 tw_16 tw_511 (nA := 0) (by decide +kernel) rfl (by decide) (Nat.le_of_ble_eq_true rfl) rfl dX4_placeNew_38 ?_
        refine q_pop (pc := 41) C dX4_placeNew_41 rfl ?_
        refine q_aload_n (pc := 42) C dX4_placeNew_42 rfl 1 rfl ?_
        refine q_get (pc := 43) (T := TX4) (v := .int (S8 18 5)) C (by decide) (ce_18 _ _ _) (ci := 4) rfl inlX4 (j := 5) (by decide) rfl tw_486 (Or.inr tw_487) dX4_placeNew_43 ?_
        refine q_if_ne (pc := 46) (tgt := 55) C dX4_placeNew_46 (by decide) (fun c11 => ?_) (fun c11 => ?_)
        · replace hm := hm_f c11 hm
          cases hm
          exact q_vret (pc := 55) C dX4_placeNew_55
        · replace hm := hm_t c11 hm
          refine q_aload_n (pc := 49) C dX4_placeNew_49 rfl 1 rfl ?_
          refine q_iload_n (pc := 50) C dX4_placeNew_50 rfl 2 rfl ?_
          refine q_iconst (pc := 51) (v := (0 : Int32)) C dX4_placeNew_51 (by decide) ?_
          obtain ⟨S9, h13, hm⟩ := o1_some hm
          refine q_callV (pc := 52) (k := 18) (As := [.int a1, .int (0 : Int32)]) (rest := []) (T := TX4) C (c_Nur_putYoung hi h13) (by decide) (ce_18 _ _ _) (ci := 4) rfl tw_581 tw_582 tw_583 tw_16 tw_584 (nA := 2) (by decide +kernel) rfl (by decide) (Nat.le_of_ble_eq_true rfl) rfl dX4_placeNew_52 ?_
          cases hm
          exact q_vret (pc := 55) C dX4_placeNew_55
set_option maxRecDepth 100000 in
theorem c_Cop_freeTogether {G : Gx} (hi : qinj (gad G)) {S : St}  {zr : Int32} (hm : m_Cop_freeTogether S  = some zr) : QMet G yX0_freeTogether cX0_freeTogether 1 (some .int) 0 0 [.ref (gad G 12)] S (some (.int zr)) S := by
  refine q_entry (by decide +kernel) rfl hi (Nat.le_of_ble_eq_true rfl) ?_
  intro X C
  refine q_lv (lv' := [(0, .ref (gad G 12))]) [0] rfl ?_
  unfold m_Cop_freeTogether at hm
  refine q_aload_n (pc := 0) C dX0_freeTogether_0 rfl 0 rfl ?_
  refine q_get (pc := 1) (T := TX0) (v := .int (S 12 1)) C (by decide) (ce_12 _ _ _) (ci := 0) rfl inlX0 (j := 1) (by decide) rfl tw_236 (Or.inr tw_237) dX0_freeTogether_1 ?_
  refine q_iconst (pc := 4) (v := (2 : Int32)) C dX0_freeTogether_4 (by decide) ?_
  refine q_idiv (pc := 5) C dX0_freeTogether_5 (by decide) ?_
  refine q_aload_n (pc := 6) C dX0_freeTogether_6 rfl 0 rfl ?_
  refine q_get (pc := 7) (T := TX0) (v := .int (S 12 11)) C (by decide) (ce_12 _ _ _) (ci := 0) rfl inlX0 (j := 11) (by decide) rfl tw_152 (Or.inl rfl) dX0_freeTogether_7 ?_
  refine q_isub (pc := 10) C dX0_freeTogether_10 ?_
  cases hm
  exact q_iret (pc := 11) C dX0_freeTogether_11
set_option maxRecDepth 100000 in
theorem c_St_put_12 {G : Gx} (hi : qinj (gad G)) {S : St} {a1 : Int32} {a2 : Int32} {zS : St} (hm : m_St_put 12 0 S a1 a2 = some zS) : QMet G yX7_put cX7_put 3 none 1 21 [.ref (gad G 12), .int a1, .int a2] S none zS := by
  refine q_entry (by decide +kernel) rfl hi (Nat.le_of_ble_eq_true rfl) ?_
  intro X C
  refine q_lv (lv' := [(0, .ref (gad G 12)), (1, .int a1), (2, .int a2)]) [0, 1, 2] rfl ?_
  unfold m_St_put at hm
  refine q_aload_n (pc := 0) C dX7_put_0 rfl 0 rfl ?_
  refine q_get (pc := 1) (T := TX0) (v := .ref (gad G 1)) C (by decide) (ce_12 _ _ _) (ci := 0) rfl inlX0 (j := 0) (by decide) rfl tw_67 (Or.inl rfl) dX7_put_1 ?_
  refine q_iload_n (pc := 4) C dX7_put_4 rfl 1 rfl ?_
  obtain ⟨r1, h1, hm⟩ := o1_some hm
  refine q_callV (pc := 5) (k := 1) (As := [.int a1]) (rest := []) (T := TX2) C (c_Gr_isThing hi h1) (by decide) (ce_1 _ _ _) (ci := 2) rfl tw_299 tw_300 tw_301 tw_13 tw_302 (nA := 1) (by decide +kernel) rfl (by decide) (Nat.le_of_ble_eq_true rfl) rfl dX7_put_5 ?_
  refine q_if_eq (pc := 8) (tgt := 25) C dX7_put_8 (by decide) (fun c1 => ?_) (fun c1 => ?_)
  · replace hm := hm_t c1 hm
    cases hm
    exact q_vret (pc := 25) C dX7_put_25
  · replace hm := hm_f c1 hm
    refine q_aload_n (pc := 11) C dX7_put_11 rfl 0 rfl ?_
    refine q_get (pc := 12) (T := TX0) (v := .ref (gad G 13)) C (by decide) (ce_12 _ _ _) (ci := 0) rfl inlX0 (j := 7) (by decide) rfl tw_65 (Or.inl rfl) dX7_put_12 ?_
    refine q_iload_n (pc := 15) C dX7_put_15 rfl 1 rfl ?_
    refine q_iconst (pc := 16) (v := (1 : Int32)) C dX7_put_16 (by decide) ?_
    obtain ⟨b1, hm⟩ := oi_some hm
    refine q_zast1 (pc := 17) C (by decide) (fun _ => ce_13 _ _ _) (ty_13 _) b1 dX7_put_17 ?_
    refine q_aload_n (pc := 18) C dX7_put_18 rfl 0 rfl ?_
    refine q_get (pc := 19) (T := TX0) (v := .ref (gad G 14)) C (by decide) (ce_12 _ _ _) (ci := 0) rfl inlX0 (j := 8) (by decide) rfl tw_66 (Or.inl rfl) dX7_put_19 ?_
    refine q_iload_n (pc := 22) C dX7_put_22 rfl 1 rfl ?_
    refine q_iload_n (pc := 23) C dX7_put_23 rfl 2 rfl ?_
    obtain ⟨b2, hm⟩ := oi_some hm
    refine q_iast (pc := 24) C (by decide) (fun _ => ce_14 _ _ _) (ty_14 _) b2 dX7_put_24 ?_
    cases hm
    exact q_vret (pc := 25) C dX7_put_25
set_option maxRecDepth 100000 in
theorem c_Cop_putBehind {G : Gx} (hi : qinj (gad G)) {S : St} {a1 : Int32} {zS : St} (hm : m_Cop_putBehind S a1 = some zS) : QMet G yX0_putBehind cX0_putBehind 2 none 2 43 [.ref (gad G 12), .int a1] S none zS := by
  refine q_entry (by decide +kernel) rfl hi (Nat.le_of_ble_eq_true rfl) ?_
  intro X C
  refine q_lv (lv' := [(0, .ref (gad G 12)), (1, .int a1)]) [0, 1] rfl ?_
  unfold m_Cop_putBehind at hm
  refine q_aload_n (pc := 0) C dX0_putBehind_0 rfl 0 rfl ?_
  refine q_iload_n (pc := 1) C dX0_putBehind_1 rfl 1 rfl ?_
  refine q_aload_n (pc := 2) C dX0_putBehind_2 rfl 0 rfl ?_
  refine q_get (pc := 3) (T := TX0) (v := .int (S 12 10)) C (by decide) (ce_12 _ _ _) (ci := 0) rfl inlX0 (j := 10) (by decide) rfl tw_151 (Or.inl rfl) dX0_putBehind_3 ?_
  refine q_if_eq (pc := 6) (tgt := 18) C dX0_putBehind_6 (by decide) (fun c1 => ?_) (fun c1 => ?_)
  · replace hm := hm_t c1 hm
    refine q_iconst (pc := 18) (v := (0 : Int32)) C dX0_putBehind_18 (by decide) ?_
    refine q_aload_n (pc := 19) C dX0_putBehind_19 rfl 0 rfl ?_
    refine q_get (pc := 20) (T := TX0) (v := .int (S 12 11)) C (by decide) (ce_12 _ _ _) (ci := 0) rfl inlX0 (j := 11) (by decide) rfl tw_152 (Or.inl rfl) dX0_putBehind_20 ?_
    refine q_iadd (pc := 23) C dX0_putBehind_23 ?_
    obtain ⟨S1, h1, hm⟩ := o1_some hm
    refine q_callU (pc := 24) (k := 12) (As := [.int a1, .int ((0 : Int32) + (S 12 11))]) (rest := []) (T := TX0) (owner := "Tessera$Store") (x := ⟨"Tessera$Copying", "put", "(II)V"⟩) C (c_St_put_12 hi h1) (by decide) (ce_12 _ _ _) (ci := 0) rfl (Or.inl rfl) tw_294 tw_295 tw_297 tw_296 tw_62 tw_298 (nA := 2) (by decide +kernel) rfl (by decide) (Nat.le_of_ble_eq_true rfl) rfl dX0_putBehind_24 ?_
    refine q_aload_n (pc := 27) C dX0_putBehind_27 rfl 0 rfl ?_
    refine q_dup (pc := 28) C dX0_putBehind_28 rfl ?_
    refine q_get (pc := 29) (T := TX0) (v := .int (S1 12 11)) C (by decide) (ce_12 _ _ _) (ci := 0) rfl inlX0 (j := 11) (by decide) rfl tw_152 (Or.inl rfl) dX0_putBehind_29 ?_
    refine q_aload_n (pc := 32) C dX0_putBehind_32 rfl 0 rfl ?_
    refine q_get (pc := 33) (T := TX0) (v := .ref (gad G 1)) C (by decide) (ce_12 _ _ _) (ci := 0) rfl inlX0 (j := 0) (by decide) rfl tw_226 (Or.inr tw_227) dX0_putBehind_33 ?_
    refine q_iload_n (pc := 36) C dX0_putBehind_36 rfl 1 rfl ?_
    obtain ⟨r1, h2, hm⟩ := o1_some hm
    refine q_callV (pc := 37) (k := 1) (As := [.int a1]) (rest := [.int (S1 12 11), .ref (gad G 12)]) (T := TX2) C (c_Gr_wordsOf hi h2) (by decide) (ce_1 _ _ _) (ci := 2) rfl tw_228 tw_229 tw_230 tw_13 tw_231 (nA := 1) (by decide +kernel) rfl (by decide) (Nat.le_of_ble_eq_true rfl) rfl dX0_putBehind_37 ?_
    refine q_iadd (pc := 40) C dX0_putBehind_40 ?_
    refine q_put (pc := 41) (T := TX0) (ty := .int) C tyX0 tyX0_ok nmX0 (by decide) (ce_12 _ _ _) (pe_12_11 _ _ _ _) (ci := 0) rfl inlX0 (j := 11) (by decide) (Nat.le_of_ble_eq_true rfl) tw_152 (Or.inl rfl) rfl (by decide +kernel) rfl rfl dX0_putBehind_41 ?_
    cases hm
    exact q_vret (pc := 44) C dX0_putBehind_44
  · replace hm := hm_f c1 hm
    refine q_aload_n (pc := 9) C dX0_putBehind_9 rfl 0 rfl ?_
    refine q_get (pc := 10) (T := TX0) (v := .int (S 12 1)) C (by decide) (ce_12 _ _ _) (ci := 0) rfl inlX0 (j := 1) (by decide) rfl tw_236 (Or.inr tw_237) dX0_putBehind_10 ?_
    refine q_iconst (pc := 13) (v := (2 : Int32)) C dX0_putBehind_13 (by decide) ?_
    refine q_idiv (pc := 14) C dX0_putBehind_14 (by decide) ?_
    refine q_goto (pc := 15) (tgt := 19) C dX0_putBehind_15 (by decide) ?_
    refine q_aload_n (pc := 19) C dX0_putBehind_19 rfl 0 rfl ?_
    refine q_get (pc := 20) (T := TX0) (v := .int (S 12 11)) C (by decide) (ce_12 _ _ _) (ci := 0) rfl inlX0 (j := 11) (by decide) rfl tw_152 (Or.inl rfl) dX0_putBehind_20 ?_
    refine q_iadd (pc := 23) C dX0_putBehind_23 ?_
    obtain ⟨S2, h3, hm⟩ := o1_some hm
    refine q_callU (pc := 24) (k := 12) (As := [.int a1, .int (((S 12 1) / (2 : Int32)) + (S 12 11))]) (rest := []) (T := TX0) (owner := "Tessera$Store") (x := ⟨"Tessera$Copying", "put", "(II)V"⟩) C (c_St_put_12 hi h3) (by decide) (ce_12 _ _ _) (ci := 0) rfl (Or.inl rfl) tw_294 tw_295 tw_297 tw_296 tw_62 tw_298 (nA := 2) (by decide +kernel) rfl (by decide) (Nat.le_of_ble_eq_true rfl) rfl dX0_putBehind_24 ?_
    refine q_aload_n (pc := 27) C dX0_putBehind_27 rfl 0 rfl ?_
    refine q_dup (pc := 28) C dX0_putBehind_28 rfl ?_
    refine q_get (pc := 29) (T := TX0) (v := .int (S2 12 11)) C (by decide) (ce_12 _ _ _) (ci := 0) rfl inlX0 (j := 11) (by decide) rfl tw_152 (Or.inl rfl) dX0_putBehind_29 ?_
    refine q_aload_n (pc := 32) C dX0_putBehind_32 rfl 0 rfl ?_
    refine q_get (pc := 33) (T := TX0) (v := .ref (gad G 1)) C (by decide) (ce_12 _ _ _) (ci := 0) rfl inlX0 (j := 0) (by decide) rfl tw_226 (Or.inr tw_227) dX0_putBehind_33 ?_
    refine q_iload_n (pc := 36) C dX0_putBehind_36 rfl 1 rfl ?_
    obtain ⟨r2, h4, hm⟩ := o1_some hm
    refine q_callV (pc := 37) (k := 1) (As := [.int a1]) (rest := [.int (S2 12 11), .ref (gad G 12)]) (T := TX2) C (c_Gr_wordsOf hi h4) (by decide) (ce_1 _ _ _) (ci := 2) rfl tw_228 tw_229 tw_230 tw_13 tw_231 (nA := 1) (by decide +kernel) rfl (by decide) (Nat.le_of_ble_eq_true rfl) rfl dX0_putBehind_37 ?_
    refine q_iadd (pc := 40) C dX0_putBehind_40 ?_
    refine q_put (pc := 41) (T := TX0) (ty := .int) C tyX0 tyX0_ok nmX0 (by decide) (ce_12 _ _ _) (pe_12_11 _ _ _ _) (ci := 0) rfl inlX0 (j := 11) (by decide) (Nat.le_of_ble_eq_true rfl) tw_152 (Or.inl rfl) rfl (by decide +kernel) rfl rfl dX0_putBehind_41 ?_
    cases hm
    exact q_vret (pc := 44) C dX0_putBehind_44
set_option maxRecDepth 100000 in
theorem c_St_breakDown_Cop_12 {G : Gx} (hi : qinj (gad G)) {S : St}  {zS : St} (hm : m_St_breakDown_Cop S  = some zS) : QMet G yX7_breakDown cX7_breakDown 1 none 1 21 [.ref (gad G 12)] S none zS := by
  refine q_entry (by decide +kernel) rfl hi (Nat.le_of_ble_eq_true rfl) ?_
  intro X C
  refine q_lv (lv' := [(0, .ref (gad G 12))]) [0] rfl ?_
  unfold m_St_breakDown_Cop at hm
  refine q_aload_n (pc := 0) C dX7_breakDown_0 rfl 0 rfl ?_
  refine q_iconst (pc := 1) (v := (1 : Int32)) C dX7_breakDown_1 (by decide) ?_
  refine q_put (pc := 2) (T := TX0) (ty := .boolean) C tyX0 tyX0_ok nmX0 (by decide) (ce_12 _ _ _) (pe_12_5 _ _ _ _) (ci := 0) rfl inlX0 (j := 5) (by decide) (Nat.le_of_ble_eq_true rfl) tw_136 (Or.inl rfl) rfl (by decide +kernel) (by decide) (by decide) dX7_breakDown_2 ?_
  refine q_aload_n (pc := 5) C dX7_breakDown_5 rfl 0 rfl ?_
  obtain ⟨S1, h1, hm⟩ := o1_some hm
  refine q_callU (pc := 6) (k := 12) (As := []) (rest := []) (T := TX0) (owner := "Tessera$Store") (x := ⟨"Tessera$Store", "letAllGo", "()V"⟩) C (c_St_letAllGo_12 hi h1) (by decide) (ce_12 _ _ _) (ci := 0) rfl (Or.inl rfl) tw_138 tw_139 tw_141 tw_140 tw_62 tw_142 (nA := 0) (by decide +kernel) rfl (by decide) (Nat.le_of_ble_eq_true rfl) rfl dX7_breakDown_6 ?_
  refine q_aload_n (pc := 9) C dX7_breakDown_9 rfl 0 rfl ?_
  obtain ⟨S2, h2, hm⟩ := o1_some hm
  refine q_callU (pc := 10) (k := 12) (As := []) (rest := []) (T := TX0) (owner := "Tessera$Store") (x := ⟨"Tessera$Store", "forgetThings", "()V"⟩) C (c_Cop_forgetThings hi h2) (by decide) (ce_12 _ _ _) (ci := 0) rfl (Or.inr (Or.inl (by decide))) tw_146 tw_147 tw_149 tw_148 tw_26 tw_150 (nA := 0) (by decide +kernel) rfl (by decide) (Nat.le_of_ble_eq_true rfl) rfl dX7_breakDown_10 ?_
  cases hm
  exact q_vret (pc := 13) C dX7_breakDown_13
set_option maxRecDepth 100000 in
theorem c_St_has_12 {G : Gx} (hi : qinj (gad G)) {S : St} {a1 : Int32} {zr : Int32} (hm : m_St_has 12 0 S a1 = some zr) : QMet G yX7_has cX7_has 2 (some .boolean) 0 0 [.ref (gad G 12), .int a1] S (some (.int zr)) S := by
  refine q_entry (by decide +kernel) rfl hi (Nat.le_of_ble_eq_true rfl) ?_
  intro X C
  refine q_lv (lv' := [(0, .ref (gad G 12)), (1, .int a1)]) [0, 1] rfl ?_
  unfold m_St_has at hm
  refine q_iload_n (pc := 0) C dX7_has_0 rfl 1 rfl ?_
  refine q_if_lt (pc := 1) (tgt := 23) C dX7_has_1 (by decide) (fun c1 => ?_) (fun c1 => ?_)
  · replace hm := hm_t c1 hm
    refine q_iconst (pc := 23) (v := (0 : Int32)) C dX7_has_23 (by decide) ?_
    cases hm
    exact q_zret (pc := 24) C (by decide) dX7_has_24
  · replace hm := hm_f c1 hm
    refine q_iload_n (pc := 4) C dX7_has_4 rfl 1 rfl ?_
    refine q_bipush (pc := 5) (v := (80 : Int32)) C dX7_has_5 (by decide) ?_
    refine q_icmp_ge (pc := 7) (tgt := 23) C dX7_has_7 (by decide) (fun c2 => ?_) (fun c2 => ?_)
    · replace hm := hm_t c2 hm
      refine q_iconst (pc := 23) (v := (0 : Int32)) C dX7_has_23 (by decide) ?_
      cases hm
      exact q_zret (pc := 24) C (by decide) dX7_has_24
    · replace hm := hm_f c2 hm
      refine q_aload_n (pc := 10) C dX7_has_10 rfl 0 rfl ?_
      refine q_get (pc := 11) (T := TX0) (v := .ref (gad G 13)) C (by decide) (ce_12 _ _ _) (ci := 0) rfl inlX0 (j := 7) (by decide) rfl tw_65 (Or.inl rfl) dX7_has_11 ?_
      refine q_iload_n (pc := 14) C dX7_has_14 rfl 1 rfl ?_
      obtain ⟨b1, hm⟩ := oi_some hm
      refine q_zald (pc := 15) C (by decide) (ce_13 _ _ _) (ty_13 _) b1 dX7_has_15 ?_
      refine q_if_eq (pc := 16) (tgt := 23) C dX7_has_16 (by decide) (fun c3 => ?_) (fun c3 => ?_)
      · replace hm := hm_t c3 hm
        refine q_iconst (pc := 23) (v := (0 : Int32)) C dX7_has_23 (by decide) ?_
        cases hm
        exact q_zret (pc := 24) C (by decide) dX7_has_24
      · replace hm := hm_f c3 hm
        refine q_iconst (pc := 19) (v := (1 : Int32)) C dX7_has_19 (by decide) ?_
        refine q_goto (pc := 20) (tgt := 24) C dX7_has_20 (by decide) ?_
        cases hm
        exact q_zret (pc := 24) C (by decide) dX7_has_24
set_option maxRecDepth 100000 in
theorem w_St_countHad_12_L4 {G : Gx} (hi : qinj (gad G)) {X : Cx} (C : QC G X cX7_countHad 3 RX7 1 21 (some .int)) {Q : State → Prop} : ∀ (n : Nat) (S : St) (v1 : Int32) (v2 : Int32) (x1 : Int32), m_St_countHad_L4 12 0 n S v1 v2 = some x1 → QW G X 3 Q 37 [(1, .int x1)] [] S → QW G X 3 Q 4 [(0, .ref (gad G 12)), (1, .int v1), (2, .int v2)] [] S := by
  intro n
  induction n with
  | zero =>
    intro S v1 v2 x1 hm kk
    rw [m_St_countHad_L4] at hm
    cases hm
  | succ n ih =>
    intro S v1 v2 x1 hm kk
    rw [m_St_countHad_L4] at hm
    refine q_iload_n (pc := 4) C dX7_countHad_4 rfl 2 rfl ?_
    refine q_aload_n (pc := 5) C dX7_countHad_5 rfl 0 rfl ?_
    refine q_get (pc := 6) (T := TX0) (v := .ref (gad G 1)) C (by decide) (ce_12 _ _ _) (ci := 0) rfl inlX0 (j := 0) (by decide) rfl tw_67 (Or.inl rfl) dX7_countHad_6 ?_
    refine q_get (pc := 9) (T := TX2) (v := .int (S 1 6)) C (by decide) (ce_1 _ _ _) (ci := 2) rfl inlX2 (j := 6) (by decide) rfl tw_252 (Or.inl rfl) dX7_countHad_9 ?_
    refine q_icmp_ge (pc := 12) (tgt := 37) C dX7_countHad_12 (by decide) (fun c1 => ?_) (fun c1 => ?_)
    · replace hm := hm_t c1 hm
      cases hm
      refine q_lv (lv' := [(1, .int v1)]) [1] rfl ?_
      exact kk
    · replace hm := hm_f c1 hm
      refine q_iload_n (pc := 15) C dX7_countHad_15 rfl 1 rfl ?_
      refine q_aload_n (pc := 16) C dX7_countHad_16 rfl 0 rfl ?_
      refine q_iload_n (pc := 17) C dX7_countHad_17 rfl 2 rfl ?_
      obtain ⟨r1, h1, hm⟩ := o1_some hm
      refine q_callU (pc := 18) (k := 12) (As := [.int v2]) (rest := [.int v1]) (T := TX0) (owner := "Tessera$Store") (x := ⟨"Tessera$Store", "has", "(I)Z"⟩) C (c_St_has_12 hi h1) (by decide) (ce_12 _ _ _) (ci := 0) rfl (Or.inl rfl) tw_253 tw_254 tw_256 tw_255 tw_62 tw_257 (nA := 1) (by decide +kernel) rfl (by decide) (Nat.le_of_ble_eq_true rfl) rfl dX7_countHad_18 ?_
      refine q_if_eq (pc := 21) (tgt := 28) C dX7_countHad_21 (by decide) (fun c2 => ?_) (fun c2 => ?_)
      · replace hm := hm_t c2 hm
        refine q_iconst (pc := 28) (v := (0 : Int32)) C dX7_countHad_28 (by decide) ?_
        refine q_iadd (pc := 29) C dX7_countHad_29 ?_
        refine q_istore_n (pc := 30) (lv' := [(1, .int (v1 + (0 : Int32))), (0, .ref (gad G 12)), (2, .int v2)]) C dX7_countHad_30 rfl (by decide) rfl ?_
        refine q_iinc (pc := 31) (k := 2) (v := (v2 + (1 : Int32))) (lv' := [(2, .int (v2 + (1 : Int32))), (1, .int (v1 + (0 : Int32))), (0, .ref (gad G 12))]) C dX7_countHad_31 rfl rfl (by decide) rfl ?_
        refine q_goto (pc := 34) (tgt := 4) C dX7_countHad_34 (by decide) ?_
        refine q_lv (lv' := [(0, .ref (gad G 12)), (1, .int (v1 + (0 : Int32))), (2, .int (v2 + (1 : Int32)))]) [2, 1, 0] rfl ?_
        exact ih _ _ _ _ hm kk
      · replace hm := hm_f c2 hm
        refine q_iconst (pc := 24) (v := (1 : Int32)) C dX7_countHad_24 (by decide) ?_
        refine q_goto (pc := 25) (tgt := 29) C dX7_countHad_25 (by decide) ?_
        refine q_iadd (pc := 29) C dX7_countHad_29 ?_
        refine q_istore_n (pc := 30) (lv' := [(1, .int (v1 + (1 : Int32))), (0, .ref (gad G 12)), (2, .int v2)]) C dX7_countHad_30 rfl (by decide) rfl ?_
        refine q_iinc (pc := 31) (k := 2) (v := (v2 + (1 : Int32))) (lv' := [(2, .int (v2 + (1 : Int32))), (1, .int (v1 + (1 : Int32))), (0, .ref (gad G 12))]) C dX7_countHad_31 rfl rfl (by decide) rfl ?_
        refine q_goto (pc := 34) (tgt := 4) C dX7_countHad_34 (by decide) ?_
        refine q_lv (lv' := [(0, .ref (gad G 12)), (1, .int (v1 + (1 : Int32))), (2, .int (v2 + (1 : Int32)))]) [2, 1, 0] rfl ?_
        exact ih _ _ _ _ hm kk
set_option maxRecDepth 100000 in
theorem c_St_countHad_12 {G : Gx} (hi : qinj (gad G)) {S : St}  {zr : Int32} (hm : m_St_countHad 12 0 S  = some zr) : QMet G yX7_countHad cX7_countHad 3 (some .int) 1 21 [.ref (gad G 12)] S (some (.int zr)) S := by
  refine q_entry (by decide +kernel) rfl hi (Nat.le_of_ble_eq_true rfl) ?_
  intro X C
  refine q_lv (lv' := [(0, .ref (gad G 12))]) [0] rfl ?_
  unfold m_St_countHad at hm
  refine q_iconst (pc := 0) (v := (0 : Int32)) C dX7_countHad_0 (by decide) ?_
  refine q_istore_n (pc := 1) (lv' := [(1, .int (0 : Int32)), (0, .ref (gad G 12))]) C dX7_countHad_1 rfl (by decide) rfl ?_
  refine q_iconst (pc := 2) (v := (0 : Int32)) C dX7_countHad_2 (by decide) ?_
  refine q_istore_n (pc := 3) (lv' := [(2, .int (0 : Int32)), (1, .int (0 : Int32)), (0, .ref (gad G 12))]) C dX7_countHad_3 rfl (by decide) rfl ?_
  refine q_lv (lv' := [(0, .ref (gad G 12)), (1, .int (0 : Int32)), (2, .int (0 : Int32))]) [2, 1, 0] rfl ?_
  obtain ⟨y1, h1, hm⟩ := o1_some hm
  refine w_St_countHad_12_L4 hi C 200 _ _ _ _ h1 ?_
  refine q_iload_n (pc := 37) C dX7_countHad_37 rfl 0 rfl ?_
  cases hm
  exact q_iret (pc := 38) C dX7_countHad_38
set_option maxRecDepth 100000 in
theorem w_Row_empty_15_L2 {G : Gx} (hi : qinj (gad G)) {X : Cx} (C : QC G X cX5_empty 2 RX5 0 0 none) {Q : State → Prop} : ∀ (n : Nat) (S : St) (v1 : Int32) (zS : St), m_Row_empty_L2 15 n S v1 = some zS → QW G X 2 Q 21 [(0, .ref (gad G 15))] [] zS → QW G X 2 Q 2 [(0, .ref (gad G 15)), (1, .int v1)] [] S := by
  intro n
  induction n with
  | zero =>
    intro S v1 zS hm kk
    rw [m_Row_empty_L2] at hm
    cases hm
  | succ n ih =>
    intro S v1 zS hm kk
    rw [m_Row_empty_L2] at hm
    refine q_iload_n (pc := 2) C dX5_empty_2 rfl 1 rfl ?_
    refine q_bipush (pc := 3) (v := (80 : Int32)) C dX5_empty_3 (by decide) ?_
    refine q_icmp_ge (pc := 5) (tgt := 21) C dX5_empty_5 (by decide) (fun c1 => ?_) (fun c1 => ?_)
    · replace hm := hm_t c1 hm
      cases hm
      refine q_lv (lv' := [(0, .ref (gad G 15))]) [0] rfl ?_
      exact kk
    · replace hm := hm_f c1 hm
      refine q_aload_n (pc := 8) C dX5_empty_8 rfl 0 rfl ?_
      refine q_get (pc := 9) (T := TX5) (v := .ref (gad G 17)) C (by decide) (ce_15 _ _ _) (ci := 5) rfl inlX5 (j := 1) (by decide) rfl tw_50 (Or.inl rfl) dX5_empty_9 ?_
      refine q_iload_n (pc := 12) C dX5_empty_12 rfl 1 rfl ?_
      refine q_iconst (pc := 13) (v := (0 : Int32)) C dX5_empty_13 (by decide) ?_
      obtain ⟨b1, hm⟩ := oi_some hm
      refine q_zast0 (pc := 14) C (by decide) (fun _ => ce_17 _ _ _) (ty_17 _) b1 dX5_empty_14 ?_
      refine q_iinc (pc := 15) (k := 1) (v := (v1 + (1 : Int32))) (lv' := [(1, .int (v1 + (1 : Int32))), (0, .ref (gad G 15))]) C dX5_empty_15 rfl rfl (by decide) rfl ?_
      refine q_goto (pc := 18) (tgt := 2) C dX5_empty_18 (by decide) ?_
      refine q_lv (lv' := [(0, .ref (gad G 15)), (1, .int (v1 + (1 : Int32)))]) [1, 0] rfl ?_
      exact ih _ _ _ hm kk
set_option maxRecDepth 100000 in
theorem c_Row_empty_15 {G : Gx} (hi : qinj (gad G)) {S : St}  {zS : St} (hm : m_Row_empty 15 S  = some zS) : QMet G yX5_empty cX5_empty 2 none 0 0 [.ref (gad G 15)] S none zS := by
  refine q_entry (by decide +kernel) rfl hi (Nat.le_of_ble_eq_true rfl) ?_
  intro X C
  refine q_lv (lv' := [(0, .ref (gad G 15))]) [0] rfl ?_
  unfold m_Row_empty at hm
  refine q_iconst (pc := 0) (v := (0 : Int32)) C dX5_empty_0 (by decide) ?_
  refine q_istore_n (pc := 1) (lv' := [(1, .int (0 : Int32)), (0, .ref (gad G 15))]) C dX5_empty_1 rfl (by decide) rfl ?_
  refine q_lv (lv' := [(0, .ref (gad G 15)), (1, .int (0 : Int32))]) [1, 0] rfl ?_
  obtain ⟨S1, h1, hm⟩ := o1_some hm
  refine w_Row_empty_15_L2 hi C 200 _ _ _ h1 ?_
  refine q_aload_n (pc := 21) C dX5_empty_21 rfl 0 rfl ?_
  refine q_iconst (pc := 22) (v := (0 : Int32)) C dX5_empty_22 (by decide) ?_
  refine q_put (pc := 23) (T := TX5) (ty := .int) C tyX5 tyX5_ok nmX5 (by decide) (ce_15 _ _ _) (pe_15_2 _ _ _ _) (ci := 5) rfl inlX5 (j := 2) (by decide) (Nat.le_of_ble_eq_true rfl) tw_127 (Or.inl rfl) rfl (by decide +kernel) rfl rfl dX5_empty_23 ?_
  cases hm
  exact q_vret (pc := 26) C dX5_empty_26
set_option maxRecDepth 100000 in
theorem c_Row_add_15 {G : Gx} (hi : qinj (gad G)) {S : St} {a1 : Int32} {zS : St} (hm : m_Row_add 15 S a1 = some zS) : QMet G yX5_add cX5_add 2 none 0 0 [.ref (gad G 15), .int a1] S none zS := by
  refine q_entry (by decide +kernel) rfl hi (Nat.le_of_ble_eq_true rfl) ?_
  intro X C
  refine q_lv (lv' := [(0, .ref (gad G 15)), (1, .int a1)]) [0, 1] rfl ?_
  unfold m_Row_add at hm
  refine q_iload_n (pc := 0) C dX5_add_0 rfl 1 rfl ?_
  refine q_if_lt (pc := 1) (tgt := 28) C dX5_add_1 (by decide) (fun c1 => ?_) (fun c1 => ?_)
  · replace hm := hm_t c1 hm
    cases hm
    exact q_vret (pc := 28) C dX5_add_28
  · replace hm := hm_f c1 hm
    refine q_iload_n (pc := 4) C dX5_add_4 rfl 1 rfl ?_
    refine q_bipush (pc := 5) (v := (80 : Int32)) C dX5_add_5 (by decide) ?_
    refine q_icmp_ge (pc := 7) (tgt := 28) C dX5_add_7 (by decide) (fun c2 => ?_) (fun c2 => ?_)
    · replace hm := hm_t c2 hm
      cases hm
      exact q_vret (pc := 28) C dX5_add_28
    · replace hm := hm_f c2 hm
      refine q_aload_n (pc := 10) C dX5_add_10 rfl 0 rfl ?_
      refine q_get (pc := 11) (T := TX5) (v := .ref (gad G 17)) C (by decide) (ce_15 _ _ _) (ci := 5) rfl inlX5 (j := 1) (by decide) rfl tw_50 (Or.inl rfl) dX5_add_11 ?_
      refine q_iload_n (pc := 14) C dX5_add_14 rfl 1 rfl ?_
      obtain ⟨b1, hm⟩ := oi_some hm
      refine q_zald (pc := 15) C (by decide) (ce_17 _ _ _) (ty_17 _) b1 dX5_add_15 ?_
      refine q_if_ne (pc := 16) (tgt := 28) C dX5_add_16 (by decide) (fun c3 => ?_) (fun c3 => ?_)
      · replace hm := hm_f c3 hm
        cases hm
        exact q_vret (pc := 28) C dX5_add_28
      · replace hm := hm_t c3 hm
        refine q_aload_n (pc := 19) C dX5_add_19 rfl 0 rfl ?_
        refine q_get (pc := 20) (T := TX5) (v := .int (S 15 2)) C (by decide) (ce_15 _ _ _) (ci := 5) rfl inlX5 (j := 2) (by decide) rfl tw_127 (Or.inl rfl) dX5_add_20 ?_
        refine q_bipush (pc := 23) (v := (80 : Int32)) C dX5_add_23 (by decide) ?_
        refine q_icmp_lt (pc := 25) (tgt := 29) C dX5_add_25 (by decide) (fun c4 => ?_) (fun c4 => ?_)
        · replace hm := hm_t c4 hm
          refine q_aload_n (pc := 29) C dX5_add_29 rfl 0 rfl ?_
          refine q_get (pc := 30) (T := TX5) (v := .ref (gad G 17)) C (by decide) (ce_15 _ _ _) (ci := 5) rfl inlX5 (j := 1) (by decide) rfl tw_50 (Or.inl rfl) dX5_add_30 ?_
          refine q_iload_n (pc := 33) C dX5_add_33 rfl 1 rfl ?_
          refine q_iconst (pc := 34) (v := (1 : Int32)) C dX5_add_34 (by decide) ?_
          obtain ⟨b2, hm⟩ := oi_some hm
          refine q_zast1 (pc := 35) C (by decide) (fun _ => ce_17 _ _ _) (ty_17 _) b2 dX5_add_35 ?_
          refine q_aload_n (pc := 36) C dX5_add_36 rfl 0 rfl ?_
          refine q_get (pc := 37) (T := TX5) (v := .ref (gad G 16)) C (by decide) (ce_15 _ _ _) (ci := 5) rfl inlX5 (j := 0) (by decide) rfl tw_49 (Or.inl rfl) dX5_add_37 ?_
          refine q_aload_n (pc := 40) C dX5_add_40 rfl 0 rfl ?_
          refine q_get (pc := 41) (T := TX5) (v := .int (S 15 2)) C (by decide) (ce_15 _ _ _) (ci := 5) rfl inlX5 (j := 2) (by decide) rfl tw_127 (Or.inl rfl) dX5_add_41 ?_
          refine q_iload_n (pc := 44) C dX5_add_44 rfl 1 rfl ?_
          obtain ⟨b3, hm⟩ := oi_some hm
          refine q_iast (pc := 45) C (by decide) (fun _ => ce_16 _ _ _) (ty_16 _) b3 dX5_add_45 ?_
          refine q_aload_n (pc := 46) C dX5_add_46 rfl 0 rfl ?_
          refine q_dup (pc := 47) C dX5_add_47 rfl ?_
          refine q_get (pc := 48) (T := TX5) (v := .int (S 15 2)) C (by decide) (ce_15 _ _ _) (ci := 5) rfl inlX5 (j := 2) (by decide) rfl tw_127 (Or.inl rfl) dX5_add_48 ?_
          refine q_iconst (pc := 51) (v := (1 : Int32)) C dX5_add_51 (by decide) ?_
          refine q_iadd (pc := 52) C dX5_add_52 ?_
          refine q_put (pc := 53) (T := TX5) (ty := .int) C tyX5 tyX5_ok nmX5 (by decide) (ce_15 _ _ _) (pe_15_2 _ _ _ _) (ci := 5) rfl inlX5 (j := 2) (by decide) (Nat.le_of_ble_eq_true rfl) tw_127 (Or.inl rfl) rfl (by decide +kernel) rfl rfl dX5_add_53 ?_
          cases hm
          exact q_vret (pc := 56) C dX5_add_56
        · replace hm := hm_f c4 hm
          cases hm
          exact q_vret (pc := 28) C dX5_add_28
set_option maxRecDepth 100000 in
theorem c_Row_get_15 {G : Gx} (hi : qinj (gad G)) {S : St} {a1 : Int32} {zr : Int32} (hm : m_Row_get 15 S a1 = some zr) : QMet G yX5_get cX5_get 2 (some .int) 0 0 [.ref (gad G 15), .int a1] S (some (.int zr)) S := by
  refine q_entry (by decide +kernel) rfl hi (Nat.le_of_ble_eq_true rfl) ?_
  intro X C
  refine q_lv (lv' := [(0, .ref (gad G 15)), (1, .int a1)]) [0, 1] rfl ?_
  unfold m_Row_get at hm
  refine q_iload_n (pc := 0) C dX5_get_0 rfl 1 rfl ?_
  refine q_if_lt (pc := 1) (tgt := 21) C dX5_get_1 (by decide) (fun c1 => ?_) (fun c1 => ?_)
  · replace hm := hm_t c1 hm
    refine q_iconst (pc := 21) (v := (-1 : Int32)) C dX5_get_21 (by decide) ?_
    cases hm
    exact q_iret (pc := 22) C dX5_get_22
  · replace hm := hm_f c1 hm
    refine q_iload_n (pc := 4) C dX5_get_4 rfl 1 rfl ?_
    refine q_aload_n (pc := 5) C dX5_get_5 rfl 0 rfl ?_
    refine q_get (pc := 6) (T := TX5) (v := .int (S 15 2)) C (by decide) (ce_15 _ _ _) (ci := 5) rfl inlX5 (j := 2) (by decide) rfl tw_127 (Or.inl rfl) dX5_get_6 ?_
    refine q_icmp_ge (pc := 9) (tgt := 21) C dX5_get_9 (by decide) (fun c2 => ?_) (fun c2 => ?_)
    · replace hm := hm_t c2 hm
      refine q_iconst (pc := 21) (v := (-1 : Int32)) C dX5_get_21 (by decide) ?_
      cases hm
      exact q_iret (pc := 22) C dX5_get_22
    · replace hm := hm_f c2 hm
      refine q_aload_n (pc := 12) C dX5_get_12 rfl 0 rfl ?_
      refine q_get (pc := 13) (T := TX5) (v := .ref (gad G 16)) C (by decide) (ce_15 _ _ _) (ci := 5) rfl inlX5 (j := 0) (by decide) rfl tw_49 (Or.inl rfl) dX5_get_13 ?_
      refine q_iload_n (pc := 16) C dX5_get_16 rfl 1 rfl ?_
      obtain ⟨b1, hm⟩ := oi_some hm
      refine q_iald (pc := 17) C (by decide) (ce_16 _ _ _) (ty_16 _) b1 dX5_get_17 ?_
      refine q_goto (pc := 18) (tgt := 22) C dX5_get_18 (by decide) ?_
      cases hm
      exact q_iret (pc := 22) C dX5_get_22
set_option maxRecDepth 100000 in
theorem w_Gr_addNamedBy_15_L2 {G : Gx} (hi : qinj (gad G)) {X : Cx} (C : QC G X cX2_addNamedBy 4 RX2 1 22 none) {Q : State → Prop} : ∀ (n : Nat) (S : St) (v1 : Int32) (v3 : Int32) (zS : St), m_Gr_addNamedBy_L2 15 n S v1 v3 = some zS → QW G X 4 Q 27 [] [] zS → QW G X 4 Q 2 [(0, .ref (gad G 1)), (1, .int v1), (2, .ref (gad G 15)), (3, .int v3)] [] S := by
  intro n
  induction n with
  | zero =>
    intro S v1 v3 zS hm kk
    rw [m_Gr_addNamedBy_L2] at hm
    cases hm
  | succ n ih =>
    intro S v1 v3 zS hm kk
    rw [m_Gr_addNamedBy_L2] at hm
    refine q_iload_n (pc := 2) C dX2_addNamedBy_2 rfl 3 rfl ?_
    refine q_aload_n (pc := 3) C dX2_addNamedBy_3 rfl 0 rfl ?_
    refine q_iload_n (pc := 4) C dX2_addNamedBy_4 rfl 1 rfl ?_
    obtain ⟨r1, h1, hm⟩ := o1_some hm
    refine q_callV (pc := 5) (k := 1) (As := [.int v1]) (rest := [.int v3]) (T := TX2) C (c_Gr_fieldsOf hi h1) (by decide) (ce_1 _ _ _) (ci := 2) rfl tw_278 tw_279 tw_280 tw_13 tw_281 (nA := 1) (by decide +kernel) rfl (by decide) (Nat.le_of_ble_eq_true rfl) rfl dX2_addNamedBy_5 ?_
    refine q_icmp_ge (pc := 8) (tgt := 27) C dX2_addNamedBy_8 (by decide) (fun c1 => ?_) (fun c1 => ?_)
    · replace hm := hm_t c1 hm
      cases hm
      refine q_lv (lv' := []) [] rfl ?_
      exact kk
    · replace hm := hm_f c1 hm
      refine q_aload_n (pc := 11) C dX2_addNamedBy_11 rfl 2 rfl ?_
      refine q_aload_n (pc := 12) C dX2_addNamedBy_12 rfl 0 rfl ?_
      refine q_iload_n (pc := 13) C dX2_addNamedBy_13 rfl 1 rfl ?_
      refine q_iload_n (pc := 14) C dX2_addNamedBy_14 rfl 3 rfl ?_
      obtain ⟨r2, h2, hm⟩ := o1_some hm
      refine q_callV (pc := 15) (k := 1) (As := [.int v1, .int v3]) (rest := [.ref (gad G 15)]) (T := TX2) C (c_Gr_nameOf hi h2) (by decide) (ce_1 _ _ _) (ci := 2) rfl tw_282 tw_283 tw_284 tw_13 tw_285 (nA := 2) (by decide +kernel) rfl (by decide) (Nat.le_of_ble_eq_true rfl) rfl dX2_addNamedBy_15 ?_
      obtain ⟨S1, h3, hm⟩ := o1_some hm
      refine q_callV (pc := 18) (k := 15) (As := [.int r2]) (rest := []) (T := TX5) C (c_Row_add_15 hi h3) (by decide) (ce_15 _ _ _) (ci := 5) rfl tw_266 tw_267 tw_268 tw_43 tw_269 (nA := 1) (by decide +kernel) rfl (by decide) (Nat.le_of_ble_eq_true rfl) rfl dX2_addNamedBy_18 ?_
      refine q_iinc (pc := 21) (k := 3) (v := (v3 + (1 : Int32))) (lv' := [(3, .int (v3 + (1 : Int32))), (0, .ref (gad G 1)), (1, .int v1), (2, .ref (gad G 15))]) C dX2_addNamedBy_21 rfl rfl (by decide) rfl ?_
      refine q_goto (pc := 24) (tgt := 2) C dX2_addNamedBy_24 (by decide) ?_
      refine q_lv (lv' := [(0, .ref (gad G 1)), (1, .int v1), (2, .ref (gad G 15)), (3, .int (v3 + (1 : Int32)))]) [1, 2, 3, 0] rfl ?_
      exact ih _ _ _ _ hm kk
set_option maxRecDepth 100000 in
theorem c_Gr_addNamedBy_15 {G : Gx} (hi : qinj (gad G)) {S : St} {a1 : Int32} {zS : St} (hm : m_Gr_addNamedBy 15 S a1 = some zS) : QMet G yX2_addNamedBy cX2_addNamedBy 4 none 1 22 [.ref (gad G 1), .int a1, .ref (gad G 15)] S none zS := by
  refine q_entry (by decide +kernel) rfl hi (Nat.le_of_ble_eq_true rfl) ?_
  intro X C
  refine q_lv (lv' := [(0, .ref (gad G 1)), (1, .int a1), (2, .ref (gad G 15))]) [0, 1, 2] rfl ?_
  unfold m_Gr_addNamedBy at hm
  refine q_iconst (pc := 0) (v := (0 : Int32)) C dX2_addNamedBy_0 (by decide) ?_
  refine q_istore_n (pc := 1) (lv' := [(3, .int (0 : Int32)), (0, .ref (gad G 1)), (1, .int a1), (2, .ref (gad G 15))]) C dX2_addNamedBy_1 rfl (by decide) rfl ?_
  refine q_lv (lv' := [(0, .ref (gad G 1)), (1, .int a1), (2, .ref (gad G 15)), (3, .int (0 : Int32))]) [1, 2, 3, 0] rfl ?_
  obtain ⟨S1, h1, hm⟩ := o1_some hm
  refine w_Gr_addNamedBy_15_L2 hi C 200 _ _ _ _ h1 ?_
  cases hm
  exact q_vret (pc := 27) C dX2_addNamedBy_27
set_option maxRecDepth 100000 in
theorem w_Gr_trace_15_L6 {G : Gx} (hi : qinj (gad G)) {X : Cx} (C : QC G X cX2_trace 4 RX2 2 45 none) {Q : State → Prop} : ∀ (n : Nat) (S : St) (v2 : Int32) (v3 : Int32) (zS : St), m_Gr_trace_L6 15 n S v2 v3 = some zS → QW G X 4 Q 33 [(0, .ref (gad G 1)), (1, .ref (gad G 15))] [] zS → QW G X 4 Q 6 [(0, .ref (gad G 1)), (1, .ref (gad G 15)), (2, .int v2), (3, .int v3)] [] S := by
  intro n
  induction n with
  | zero =>
    intro S v2 v3 zS hm kk
    rw [m_Gr_trace_L6] at hm
    cases hm
  | succ n ih =>
    intro S v2 v3 zS hm kk
    rw [m_Gr_trace_L6] at hm
    refine q_iload_n (pc := 6) C dX2_trace_6 rfl 3 rfl ?_
    refine q_bipush (pc := 7) (v := (6 : Int32)) C dX2_trace_7 (by decide) ?_
    refine q_icmp_ge (pc := 9) (tgt := 33) C dX2_trace_9 (by decide) (fun c1 => ?_) (fun c1 => ?_)
    · replace hm := hm_t c1 hm
      cases hm
      refine q_lv (lv' := [(0, .ref (gad G 1)), (1, .ref (gad G 15))]) [0, 1] rfl ?_
      exact kk
    · replace hm := hm_f c1 hm
      refine q_iload_n (pc := 12) C dX2_trace_12 rfl 3 rfl ?_
      refine q_iload_n (pc := 13) C dX2_trace_13 rfl 2 rfl ?_
      refine q_icmp_eq (pc := 14) (tgt := 27) C dX2_trace_14 (by decide) (fun c2 => ?_) (fun c2 => ?_)
      · replace hm := hm_t c2 hm
        refine q_iinc (pc := 27) (k := 3) (v := (v3 + (1 : Int32))) (lv' := [(3, .int (v3 + (1 : Int32))), (0, .ref (gad G 1)), (1, .ref (gad G 15)), (2, .int v2)]) C dX2_trace_27 rfl rfl (by decide) rfl ?_
        refine q_goto (pc := 30) (tgt := 6) C dX2_trace_30 (by decide) ?_
        refine q_lv (lv' := [(0, .ref (gad G 1)), (1, .ref (gad G 15)), (2, .int v2), (3, .int (v3 + (1 : Int32)))]) [1, 2, 3, 0] rfl ?_
        exact ih _ _ _ _ hm kk
      · replace hm := hm_f c2 hm
        refine q_aload_n (pc := 17) C dX2_trace_17 rfl 1 rfl ?_
        refine q_aload_n (pc := 18) C dX2_trace_18 rfl 0 rfl ?_
        refine q_get (pc := 19) (T := TX2) (v := .ref (gad G 4)) C (by decide) (ce_1 _ _ _) (ci := 2) rfl inlX2 (j := 2) (by decide) rfl tw_39 (Or.inl rfl) dX2_trace_19 ?_
        refine q_iload_n (pc := 22) C dX2_trace_22 rfl 3 rfl ?_
        obtain ⟨b1, hm⟩ := oi_some hm
        refine q_iald (pc := 23) C (by decide) (ce_4 _ _ _) (ty_4 _) b1 dX2_trace_23 ?_
        obtain ⟨S1, h1, hm⟩ := o1_some hm
        refine q_callV (pc := 24) (k := 15) (As := [.int (S 4 v3.toNatClampNeg)]) (rest := []) (T := TX5) C (c_Row_add_15 hi h1) (by decide) (ce_15 _ _ _) (ci := 5) rfl tw_266 tw_267 tw_268 tw_43 tw_269 (nA := 1) (by decide +kernel) rfl (by decide) (Nat.le_of_ble_eq_true rfl) rfl dX2_trace_24 ?_
        refine q_iinc (pc := 27) (k := 3) (v := (v3 + (1 : Int32))) (lv' := [(3, .int (v3 + (1 : Int32))), (0, .ref (gad G 1)), (1, .ref (gad G 15)), (2, .int v2)]) C dX2_trace_27 rfl rfl (by decide) rfl ?_
        refine q_goto (pc := 30) (tgt := 6) C dX2_trace_30 (by decide) ?_
        refine q_lv (lv' := [(0, .ref (gad G 1)), (1, .ref (gad G 15)), (2, .int v2), (3, .int (v3 + (1 : Int32)))]) [1, 2, 3, 0] rfl ?_
        exact ih _ _ _ _ hm kk
set_option maxRecDepth 100000 in
theorem w_Gr_trace_15_L35 {G : Gx} (hi : qinj (gad G)) {X : Cx} (C : QC G X cX2_trace 4 RX2 2 45 none) {Q : State → Prop} : ∀ (n : Nat) (S : St) (v3 : Int32) (zS : St), m_Gr_trace_L35 15 n S v3 = some zS → QW G X 4 Q 65 [] [] zS → QW G X 4 Q 35 [(0, .ref (gad G 1)), (1, .ref (gad G 15)), (3, .int v3)] [] S := by
  intro n
  induction n with
  | zero =>
    intro S v3 zS hm kk
    rw [m_Gr_trace_L35] at hm
    cases hm
  | succ n ih =>
    intro S v3 zS hm kk
    rw [m_Gr_trace_L35] at hm
    refine q_iload_n (pc := 35) C dX2_trace_35 rfl 2 rfl ?_
    refine q_aload_n (pc := 36) C dX2_trace_36 rfl 1 rfl ?_
    refine q_get (pc := 37) (T := TX5) (v := .int (S 15 2)) C (by decide) (ce_15 _ _ _) (ci := 5) rfl inlX5 (j := 2) (by decide) rfl tw_265 (Or.inl rfl) dX2_trace_37 ?_
    refine q_icmp_ge (pc := 40) (tgt := 65) C dX2_trace_40 (by decide) (fun c1 => ?_) (fun c1 => ?_)
    · replace hm := hm_t c1 hm
      cases hm
      refine q_lv (lv' := []) [] rfl ?_
      exact kk
    · replace hm := hm_f c1 hm
      refine q_iload_n (pc := 43) C dX2_trace_43 rfl 2 rfl ?_
      refine q_bipush (pc := 44) (v := (80 : Int32)) C dX2_trace_44 (by decide) ?_
      refine q_icmp_ge (pc := 46) (tgt := 65) C dX2_trace_46 (by decide) (fun c2 => ?_) (fun c2 => ?_)
      · replace hm := hm_t c2 hm
        cases hm
        refine q_lv (lv' := []) [] rfl ?_
        exact kk
      · replace hm := hm_f c2 hm
        refine q_aload_n (pc := 49) C dX2_trace_49 rfl 0 rfl ?_
        refine q_aload_n (pc := 50) C dX2_trace_50 rfl 1 rfl ?_
        refine q_iload_n (pc := 51) C dX2_trace_51 rfl 2 rfl ?_
        obtain ⟨r1, h1, hm⟩ := o1_some hm
        refine q_callV (pc := 52) (k := 15) (As := [.int v3]) (rest := [.ref (gad G 1)]) (T := TX5) C (c_Row_get_15 hi h1) (by decide) (ce_15 _ _ _) (ci := 5) rfl tw_270 tw_271 tw_272 tw_43 tw_273 (nA := 1) (by decide +kernel) rfl (by decide) (Nat.le_of_ble_eq_true rfl) rfl dX2_trace_52 ?_
        refine q_aload_n (pc := 55) C dX2_trace_55 rfl 1 rfl ?_
        obtain ⟨S1, h2, hm⟩ := o1_some hm
        refine q_callV (pc := 56) (k := 1) (As := [.int r1, .ref (gad G 15)]) (rest := []) (T := TX2) C (c_Gr_addNamedBy_15 hi h2) (by decide) (ce_1 _ _ _) (ci := 2) rfl tw_274 tw_275 tw_276 tw_13 tw_277 (nA := 2) (by decide +kernel) rfl (by decide) (Nat.le_of_ble_eq_true rfl) rfl dX2_trace_56 ?_
        refine q_iinc (pc := 59) (k := 2) (v := (v3 + (1 : Int32))) (lv' := [(3, .int (v3 + (1 : Int32))), (0, .ref (gad G 1)), (1, .ref (gad G 15))]) C dX2_trace_59 rfl rfl (by decide) rfl ?_
        refine q_goto (pc := 62) (tgt := 35) C dX2_trace_62 (by decide) ?_
        refine q_lv (lv' := [(0, .ref (gad G 1)), (1, .ref (gad G 15)), (3, .int (v3 + (1 : Int32)))]) [1, 2, 0] rfl ?_
        exact ih _ _ _ hm kk
set_option maxRecDepth 100000 in
theorem c_Gr_trace_15 {G : Gx} (hi : qinj (gad G)) {S : St} {a2 : Int32} {zS : St} (hm : m_Gr_trace 15 S a2 = some zS) : QMet G yX2_trace cX2_trace 4 none 2 45 [.ref (gad G 1), .ref (gad G 15), .int a2] S none zS := by
  refine q_entry (by decide +kernel) rfl hi (Nat.le_of_ble_eq_true rfl) ?_
  intro X C
  refine q_lv (lv' := [(0, .ref (gad G 1)), (1, .ref (gad G 15)), (2, .int a2)]) [0, 1, 2] rfl ?_
  unfold m_Gr_trace at hm
  refine q_aload_n (pc := 0) C dX2_trace_0 rfl 1 rfl ?_
  obtain ⟨S1, h1, hm⟩ := o1_some hm
  refine q_callV (pc := 1) (k := 15) (As := []) (rest := []) (T := TX5) C (c_Row_empty_15 hi h1) (by decide) (ce_15 _ _ _) (ci := 5) rfl tw_123 tw_124 tw_125 tw_43 tw_126 (nA := 0) (by decide +kernel) rfl (by decide) (Nat.le_of_ble_eq_true rfl) rfl dX2_trace_1 ?_
  refine q_iconst (pc := 4) (v := (0 : Int32)) C dX2_trace_4 (by decide) ?_
  refine q_istore_n (pc := 5) (lv' := [(3, .int (0 : Int32)), (0, .ref (gad G 1)), (1, .ref (gad G 15)), (2, .int a2)]) C dX2_trace_5 rfl (by decide) rfl ?_
  refine q_lv (lv' := [(0, .ref (gad G 1)), (1, .ref (gad G 15)), (2, .int a2), (3, .int (0 : Int32))]) [1, 2, 3, 0] rfl ?_
  obtain ⟨S2, h2, hm⟩ := o1_some hm
  refine w_Gr_trace_15_L6 hi C 200 _ _ _ _ h2 ?_
  refine q_iconst (pc := 33) (v := (0 : Int32)) C dX2_trace_33 (by decide) ?_
  refine q_istore_n (pc := 34) (lv' := [(3, .int (0 : Int32)), (0, .ref (gad G 1)), (1, .ref (gad G 15))]) C dX2_trace_34 rfl (by decide) rfl ?_
  refine q_lv (lv' := [(0, .ref (gad G 1)), (1, .ref (gad G 15)), (3, .int (0 : Int32))]) [1, 2, 0] rfl ?_
  obtain ⟨S3, h3, hm⟩ := o1_some hm
  refine w_Gr_trace_15_L35 hi C 200 _ _ _ h3 ?_
  cases hm
  exact q_vret (pc := 65) C dX2_trace_65
set_option maxRecDepth 100000 in
theorem w_Cop_collectNow_L44 {G : Gx} (hi : qinj (gad G)) {X : Cx} (C : QC G X cX0_collectNow 3 RX0 3 68 (some .int)) {Q : State → Prop} : ∀ (n : Nat) (S : St) (v1 : Int32) (v2 : Int32) (zS : St), m_Cop_collectNow_L44 n S v2 = some zS → QW G X 3 Q 73 [(0, .ref (gad G 12)), (1, .int v1)] [] zS → QW G X 3 Q 44 [(0, .ref (gad G 12)), (1, .int v1), (2, .int v2)] [] S := by
  intro n
  induction n with
  | zero =>
    intro S v1 v2 zS hm kk
    rw [m_Cop_collectNow_L44] at hm
    cases hm
  | succ n ih =>
    intro S v1 v2 zS hm kk
    rw [m_Cop_collectNow_L44] at hm
    refine q_iload_n (pc := 44) C dX0_collectNow_44 rfl 2 rfl ?_
    refine q_aload_n (pc := 45) C dX0_collectNow_45 rfl 0 rfl ?_
    refine q_get (pc := 46) (T := TX0) (v := .ref (gad G 15)) C (by decide) (ce_12 _ _ _) (ci := 0) rfl inlX0 (j := 9) (by decide) rfl tw_97 (Or.inl rfl) dX0_collectNow_46 ?_
    refine q_get (pc := 49) (T := TX5) (v := .int (S 15 2)) C (by decide) (ce_15 _ _ _) (ci := 5) rfl inlX5 (j := 2) (by decide) rfl tw_242 (Or.inl rfl) dX0_collectNow_49 ?_
    refine q_icmp_ge (pc := 52) (tgt := 73) C dX0_collectNow_52 (by decide) (fun c1 => ?_) (fun c1 => ?_)
    · replace hm := hm_t c1 hm
      cases hm
      refine q_lv (lv' := [(0, .ref (gad G 12)), (1, .int v1)]) [0, 1] rfl ?_
      exact kk
    · replace hm := hm_f c1 hm
      refine q_aload_n (pc := 55) C dX0_collectNow_55 rfl 0 rfl ?_
      refine q_aload_n (pc := 56) C dX0_collectNow_56 rfl 0 rfl ?_
      refine q_get (pc := 57) (T := TX0) (v := .ref (gad G 15)) C (by decide) (ce_12 _ _ _) (ci := 0) rfl inlX0 (j := 9) (by decide) rfl tw_97 (Or.inl rfl) dX0_collectNow_57 ?_
      refine q_iload_n (pc := 60) C dX0_collectNow_60 rfl 2 rfl ?_
      obtain ⟨r1, h1, hm⟩ := o1_some hm
      refine q_callV (pc := 61) (k := 15) (As := [.int v2]) (rest := [.ref (gad G 12)]) (T := TX5) C (c_Row_get_15 hi h1) (by decide) (ce_15 _ _ _) (ci := 5) rfl tw_289 tw_271 tw_272 tw_43 tw_273 (nA := 1) (by decide +kernel) rfl (by decide) (Nat.le_of_ble_eq_true rfl) rfl dX0_collectNow_61 ?_
      obtain ⟨S1, h2, hm⟩ := o1_some hm
      refine q_callV (pc := 64) (k := 12) (As := [.int r1]) (rest := []) (T := TX0) C (c_Cop_putBehind hi h2) (by decide) (ce_12 _ _ _) (ci := 0) rfl tw_290 tw_291 tw_292 tw_26 tw_293 (nA := 1) (by decide +kernel) rfl (by decide) (Nat.le_of_ble_eq_true rfl) rfl dX0_collectNow_64 ?_
      refine q_iinc (pc := 67) (k := 2) (v := (v2 + (1 : Int32))) (lv' := [(2, .int (v2 + (1 : Int32))), (0, .ref (gad G 12)), (1, .int v1)]) C dX0_collectNow_67 rfl rfl (by decide) rfl ?_
      refine q_goto (pc := 70) (tgt := 44) C dX0_collectNow_70 (by decide) ?_
      refine q_lv (lv' := [(0, .ref (gad G 12)), (1, .int v1), (2, .int (v2 + (1 : Int32)))]) [1, 2, 0] rfl ?_
      exact ih _ _ _ _ hm kk
set_option maxRecDepth 100000 in
theorem c_Cop_collectNow {G : Gx} (hi : qinj (gad G)) {S : St}  {zr : Int32} {zS : St} (hm : m_Cop_collectNow S  = some (zr, zS)) : QMet G yX0_collectNow cX0_collectNow 3 (some .int) 3 68 [.ref (gad G 12)] S (some (.int zr)) zS := by
  refine q_entry (by decide +kernel) rfl hi (Nat.le_of_ble_eq_true rfl) ?_
  intro X C
  refine q_lv (lv' := [(0, .ref (gad G 12))]) [0] rfl ?_
  unfold m_Cop_collectNow at hm
  refine q_aload_n (pc := 0) C dX0_collectNow_0 rfl 0 rfl ?_
  obtain ⟨r1, h1, hm⟩ := o1_some hm
  refine q_callU (pc := 1) (k := 12) (As := []) (rest := []) (T := TX0) (owner := "Tessera$Store") (x := ⟨"Tessera$Copying", "countHad", "()I"⟩) C (c_St_countHad_12 hi h1) (by decide) (ce_12 _ _ _) (ci := 0) rfl (Or.inl rfl) tw_247 tw_248 tw_250 tw_249 tw_62 tw_251 (nA := 0) (by decide +kernel) rfl (by decide) (Nat.le_of_ble_eq_true rfl) rfl dX0_collectNow_1 ?_
  refine q_istore_n (pc := 4) (lv' := [(1, .int r1), (0, .ref (gad G 12))]) C dX0_collectNow_4 rfl (by decide) rfl ?_
  refine q_aload_n (pc := 5) C dX0_collectNow_5 rfl 1 rfl ?_
  refine q_get (pc := 6) (T := TX0) (v := .ref (gad G 1)) C (by decide) (ce_12 _ _ _) (ci := 0) rfl inlX0 (j := 0) (by decide) rfl tw_226 (Or.inr tw_227) dX0_collectNow_6 ?_
  refine q_aload_n (pc := 9) C dX0_collectNow_9 rfl 1 rfl ?_
  refine q_get (pc := 10) (T := TX0) (v := .ref (gad G 15)) C (by decide) (ce_12 _ _ _) (ci := 0) rfl inlX0 (j := 9) (by decide) rfl tw_97 (Or.inl rfl) dX0_collectNow_10 ?_
  refine q_iconst (pc := 13) (v := (-1 : Int32)) C dX0_collectNow_13 (by decide) ?_
  obtain ⟨S1, h2, hm⟩ := o1_some hm
  refine q_callV (pc := 14) (k := 1) (As := [.ref (gad G 15), .int (-1 : Int32)]) (rest := []) (T := TX2) C (c_Gr_trace_15 hi h2) (by decide) (ce_1 _ _ _) (ci := 2) rfl tw_261 tw_262 tw_263 tw_13 tw_264 (nA := 2) (by decide +kernel) rfl (by decide) (Nat.le_of_ble_eq_true rfl) rfl dX0_collectNow_14 ?_
  refine q_aload_n (pc := 17) C dX0_collectNow_17 rfl 1 rfl ?_
  obtain ⟨S2, h3, hm⟩ := o1_some hm
  refine q_callU (pc := 18) (k := 12) (As := []) (rest := []) (T := TX0) (owner := "Tessera$Store") (x := ⟨"Tessera$Copying", "letAllGo", "()V"⟩) C (c_St_letAllGo_12 hi h3) (by decide) (ce_12 _ _ _) (ci := 0) rfl (Or.inl rfl) tw_286 tw_287 tw_141 tw_288 tw_62 tw_142 (nA := 0) (by decide +kernel) rfl (by decide) (Nat.le_of_ble_eq_true rfl) rfl dX0_collectNow_18 ?_
  refine q_aload_n (pc := 21) C dX0_collectNow_21 rfl 1 rfl ?_
  refine q_aload_n (pc := 22) C dX0_collectNow_22 rfl 1 rfl ?_
  refine q_get (pc := 23) (T := TX0) (v := .int (S2 12 10)) C (by decide) (ce_12 _ _ _) (ci := 0) rfl inlX0 (j := 10) (by decide) rfl tw_151 (Or.inl rfl) dX0_collectNow_23 ?_
  refine q_if_ne (pc := 26) (tgt := 33) C dX0_collectNow_26 (by decide) (fun c1 => ?_) (fun c1 => ?_)
  · replace hm := hm_f c1 hm
    refine q_iconst (pc := 33) (v := (0 : Int32)) C dX0_collectNow_33 (by decide) ?_
    refine q_put (pc := 34) (T := TX0) (ty := .boolean) C tyX0 tyX0_ok nmX0 (by decide) (ce_12 _ _ _) (pe_12_10 _ _ _ _) (ci := 0) rfl inlX0 (j := 10) (by decide) (Nat.le_of_ble_eq_true rfl) tw_151 (Or.inl rfl) rfl (by decide +kernel) (by decide) (by decide) dX0_collectNow_34 ?_
    refine q_aload_n (pc := 37) C dX0_collectNow_37 rfl 1 rfl ?_
    refine q_iconst (pc := 38) (v := (0 : Int32)) C dX0_collectNow_38 (by decide) ?_
    refine q_put (pc := 39) (T := TX0) (ty := .int) C tyX0 tyX0_ok nmX0 (by decide) (ce_12 _ _ _) (pe_12_11 _ _ _ _) (ci := 0) rfl inlX0 (j := 11) (by decide) (Nat.le_of_ble_eq_true rfl) tw_152 (Or.inl rfl) rfl (by decide +kernel) rfl rfl dX0_collectNow_39 ?_
    refine q_iconst (pc := 42) (v := (0 : Int32)) C dX0_collectNow_42 (by decide) ?_
    refine q_istore_n (pc := 43) (lv' := [(2, .int (0 : Int32)), (1, .int r1), (0, .ref (gad G 12))]) C dX0_collectNow_43 rfl (by decide) rfl ?_
    refine q_lv (lv' := [(0, .ref (gad G 12)), (1, .int r1), (2, .int (0 : Int32))]) [2, 1, 0] rfl ?_
    obtain ⟨S3, h4, hm⟩ := o1_some hm
    refine w_Cop_collectNow_L44 hi C 200 _ _ _ _ h4 ?_
    refine q_aload_n (pc := 73) C dX0_collectNow_73 rfl 0 rfl ?_
    refine q_dup (pc := 74) C dX0_collectNow_74 rfl ?_
    refine q_get (pc := 75) (T := TX0) (v := .int (S3 12 2)) C (by decide) (ce_12 _ _ _) (ci := 0) rfl inlX0 (j := 2) (by decide) rfl tw_243 (Or.inr tw_244) dX0_collectNow_75 ?_
    refine q_aload_n (pc := 78) C dX0_collectNow_78 rfl 0 rfl ?_
    refine q_get (pc := 79) (T := TX0) (v := .int (S3 12 11)) C (by decide) (ce_12 _ _ _) (ci := 0) rfl inlX0 (j := 11) (by decide) rfl tw_152 (Or.inl rfl) dX0_collectNow_79 ?_
    refine q_iadd (pc := 82) C dX0_collectNow_82 ?_
    refine q_put (pc := 83) (T := TX0) (ty := .int) C tyX0 tyX0_ok nmX0 (by decide) (ce_12 _ _ _) (pe_12_2 _ _ _ _) (ci := 0) rfl inlX0 (j := 2) (by decide) (Nat.le_of_ble_eq_true rfl) tw_243 (Or.inr tw_244) rfl (by decide +kernel) rfl rfl dX0_collectNow_83 ?_
    refine q_aload_n (pc := 86) C dX0_collectNow_86 rfl 0 rfl ?_
    refine q_dup (pc := 87) C dX0_collectNow_87 rfl ?_
    refine q_get (pc := 88) (T := TX0) (v := .int (S3 12 4)) C (by decide) (ce_12 _ _ _) (ci := 0) rfl inlX0 (j := 4) (by decide) rfl tw_245 (Or.inr tw_246) dX0_collectNow_88 ?_
    refine q_iconst (pc := 91) (v := (1 : Int32)) C dX0_collectNow_91 (by decide) ?_
    refine q_iadd (pc := 92) C dX0_collectNow_92 ?_
    refine q_put (pc := 93) (T := TX0) (ty := .int) C tyX0 tyX0_ok nmX0 (by decide) (ce_12 _ _ _) (pe_12_4 _ _ _ _) (ci := 0) rfl inlX0 (j := 4) (by decide) (Nat.le_of_ble_eq_true rfl) tw_245 (Or.inr tw_246) rfl (by decide +kernel) rfl rfl dX0_collectNow_93 ?_
    refine q_iload_n (pc := 96) C dX0_collectNow_96 rfl 1 rfl ?_
    refine q_aload_n (pc := 97) C dX0_collectNow_97 rfl 0 rfl ?_
    refine q_get (pc := 98) (T := TX0) (v := .ref (gad G 15)) C (by decide) (ce_12 _ _ _) (ci := 0) rfl inlX0 (j := 9) (by decide) rfl tw_97 (Or.inl rfl) dX0_collectNow_98 ?_
    refine q_get (pc := 101) (T := TX5) (v := .int (S3 15 2)) C (by decide) (ce_15 _ _ _) (ci := 5) rfl inlX5 (j := 2) (by decide) rfl tw_242 (Or.inl rfl) dX0_collectNow_101 ?_
    refine q_isub (pc := 104) C dX0_collectNow_104 ?_
    cases hm
    exact q_iret (pc := 105) C dX0_collectNow_105
  · replace hm := hm_t c1 hm
    refine q_iconst (pc := 29) (v := (1 : Int32)) C dX0_collectNow_29 (by decide) ?_
    refine q_goto (pc := 30) (tgt := 34) C dX0_collectNow_30 (by decide) ?_
    refine q_put (pc := 34) (T := TX0) (ty := .boolean) C tyX0 tyX0_ok nmX0 (by decide) (ce_12 _ _ _) (pe_12_10 _ _ _ _) (ci := 0) rfl inlX0 (j := 10) (by decide) (Nat.le_of_ble_eq_true rfl) tw_151 (Or.inl rfl) rfl (by decide +kernel) (by decide) (by decide) dX0_collectNow_34 ?_
    refine q_aload_n (pc := 37) C dX0_collectNow_37 rfl 1 rfl ?_
    refine q_iconst (pc := 38) (v := (0 : Int32)) C dX0_collectNow_38 (by decide) ?_
    refine q_put (pc := 39) (T := TX0) (ty := .int) C tyX0 tyX0_ok nmX0 (by decide) (ce_12 _ _ _) (pe_12_11 _ _ _ _) (ci := 0) rfl inlX0 (j := 11) (by decide) (Nat.le_of_ble_eq_true rfl) tw_152 (Or.inl rfl) rfl (by decide +kernel) rfl rfl dX0_collectNow_39 ?_
    refine q_iconst (pc := 42) (v := (0 : Int32)) C dX0_collectNow_42 (by decide) ?_
    refine q_istore_n (pc := 43) (lv' := [(2, .int (0 : Int32)), (1, .int r1), (0, .ref (gad G 12))]) C dX0_collectNow_43 rfl (by decide) rfl ?_
    refine q_lv (lv' := [(0, .ref (gad G 12)), (1, .int r1), (2, .int (0 : Int32))]) [2, 1, 0] rfl ?_
    obtain ⟨S4, h5, hm⟩ := o1_some hm
    refine w_Cop_collectNow_L44 hi C 200 _ _ _ _ h5 ?_
    refine q_aload_n (pc := 73) C dX0_collectNow_73 rfl 0 rfl ?_
    refine q_dup (pc := 74) C dX0_collectNow_74 rfl ?_
    refine q_get (pc := 75) (T := TX0) (v := .int (S4 12 2)) C (by decide) (ce_12 _ _ _) (ci := 0) rfl inlX0 (j := 2) (by decide) rfl tw_243 (Or.inr tw_244) dX0_collectNow_75 ?_
    refine q_aload_n (pc := 78) C dX0_collectNow_78 rfl 0 rfl ?_
    refine q_get (pc := 79) (T := TX0) (v := .int (S4 12 11)) C (by decide) (ce_12 _ _ _) (ci := 0) rfl inlX0 (j := 11) (by decide) rfl tw_152 (Or.inl rfl) dX0_collectNow_79 ?_
    refine q_iadd (pc := 82) C dX0_collectNow_82 ?_
    refine q_put (pc := 83) (T := TX0) (ty := .int) C tyX0 tyX0_ok nmX0 (by decide) (ce_12 _ _ _) (pe_12_2 _ _ _ _) (ci := 0) rfl inlX0 (j := 2) (by decide) (Nat.le_of_ble_eq_true rfl) tw_243 (Or.inr tw_244) rfl (by decide +kernel) rfl rfl dX0_collectNow_83 ?_
    refine q_aload_n (pc := 86) C dX0_collectNow_86 rfl 0 rfl ?_
    refine q_dup (pc := 87) C dX0_collectNow_87 rfl ?_
    refine q_get (pc := 88) (T := TX0) (v := .int (S4 12 4)) C (by decide) (ce_12 _ _ _) (ci := 0) rfl inlX0 (j := 4) (by decide) rfl tw_245 (Or.inr tw_246) dX0_collectNow_88 ?_
    refine q_iconst (pc := 91) (v := (1 : Int32)) C dX0_collectNow_91 (by decide) ?_
    refine q_iadd (pc := 92) C dX0_collectNow_92 ?_
    refine q_put (pc := 93) (T := TX0) (ty := .int) C tyX0 tyX0_ok nmX0 (by decide) (ce_12 _ _ _) (pe_12_4 _ _ _ _) (ci := 0) rfl inlX0 (j := 4) (by decide) (Nat.le_of_ble_eq_true rfl) tw_245 (Or.inr tw_246) rfl (by decide +kernel) rfl rfl dX0_collectNow_93 ?_
    refine q_iload_n (pc := 96) C dX0_collectNow_96 rfl 1 rfl ?_
    refine q_aload_n (pc := 97) C dX0_collectNow_97 rfl 0 rfl ?_
    refine q_get (pc := 98) (T := TX0) (v := .ref (gad G 15)) C (by decide) (ce_12 _ _ _) (ci := 0) rfl inlX0 (j := 9) (by decide) rfl tw_97 (Or.inl rfl) dX0_collectNow_98 ?_
    refine q_get (pc := 101) (T := TX5) (v := .int (S4 15 2)) C (by decide) (ce_15 _ _ _) (ci := 5) rfl inlX5 (j := 2) (by decide) rfl tw_242 (Or.inl rfl) dX0_collectNow_101 ?_
    refine q_isub (pc := 104) C dX0_collectNow_104 ?_
    cases hm
    exact q_iret (pc := 105) C dX0_collectNow_105
set_option maxRecDepth 100000 in
theorem c_Cop_placeNew {G : Gx} (hi : qinj (gad G)) {S : St} {a1 : Int32} {zS : St} (hm : m_Cop_placeNew S a1 = some zS) : QMet G yX0_placeNew cX0_placeNew 3 none 4 90 [.ref (gad G 12), .int a1] S none zS := by
  refine q_entry (by decide +kernel) rfl hi (Nat.le_of_ble_eq_true rfl) ?_
  intro X C
  refine q_lv (lv' := [(0, .ref (gad G 12)), (1, .int a1)]) [0, 1] rfl ?_
  unfold m_Cop_placeNew at hm
  refine q_aload_n (pc := 0) C dX0_placeNew_0 rfl 0 rfl ?_
  refine q_get (pc := 1) (T := TX0) (v := .ref (gad G 1)) C (by decide) (ce_12 _ _ _) (ci := 0) rfl inlX0 (j := 0) (by decide) rfl tw_226 (Or.inr tw_227) dX0_placeNew_1 ?_
  refine q_iload_n (pc := 4) C dX0_placeNew_4 rfl 1 rfl ?_
  obtain ⟨r1, h1, hm⟩ := o1_some hm
  refine q_callV (pc := 5) (k := 1) (As := [.int a1]) (rest := []) (T := TX2) C (c_Gr_wordsOf hi h1) (by decide) (ce_1 _ _ _) (ci := 2) rfl tw_228 tw_229 tw_230 tw_13 tw_231 (nA := 1) (by decide +kernel) rfl (by decide) (Nat.le_of_ble_eq_true rfl) rfl dX0_placeNew_5 ?_
  refine q_istore_n (pc := 8) (lv' := [(2, .int r1), (0, .ref (gad G 12)), (1, .int a1)]) C dX0_placeNew_8 rfl (by decide) rfl ?_
  refine q_iload_n (pc := 9) C dX0_placeNew_9 rfl 0 rfl ?_
  refine q_aload_n (pc := 10) C dX0_placeNew_10 rfl 1 rfl ?_
  obtain ⟨r2, h2, hm⟩ := o1_some hm
  refine q_callV (pc := 11) (k := 12) (As := []) (rest := [.int r1]) (T := TX0) C (c_Cop_freeTogether hi h2) (by decide) (ce_12 _ _ _) (ci := 0) rfl tw_232 tw_233 tw_234 tw_26 tw_235 (nA := 0) (by decide +kernel) rfl (by decide) (Nat.le_of_ble_eq_true rfl) rfl dX0_placeNew_11 ?_
  refine q_icmp_le (pc := 14) (tgt := 22) C dX0_placeNew_14 (by decide) (fun c1 => ?_) (fun c1 => ?_)
  · replace hm := hm_t c1 hm
    refine q_iload_n (pc := 22) C dX0_placeNew_22 rfl 0 rfl ?_
    refine q_aload_n (pc := 23) C dX0_placeNew_23 rfl 1 rfl ?_
    obtain ⟨r3, h3, hm⟩ := o1_some hm
    refine q_callV (pc := 24) (k := 12) (As := []) (rest := [.int r1]) (T := TX0) C (c_Cop_freeTogether hi h3) (by decide) (ce_12 _ _ _) (ci := 0) rfl tw_232 tw_233 tw_234 tw_26 tw_235 (nA := 0) (by decide +kernel) rfl (by decide) (Nat.le_of_ble_eq_true rfl) rfl dX0_placeNew_24 ?_
    refine q_icmp_le (pc := 27) (tgt := 37) C dX0_placeNew_27 (by decide) (fun c2 => ?_) (fun c2 => ?_)
    · replace hm := hm_t c2 hm
      refine q_aload_n (pc := 37) C dX0_placeNew_37 rfl 1 rfl ?_
      refine q_iload_n (pc := 38) C dX0_placeNew_38 rfl 2 rfl ?_
      obtain ⟨S1, h4, hm⟩ := o1_some hm
      refine q_callV (pc := 39) (k := 12) (As := [.int a1]) (rest := []) (T := TX0) C (c_Cop_putBehind hi h4) (by decide) (ce_12 _ _ _) (ci := 0) rfl tw_290 tw_291 tw_292 tw_26 tw_293 (nA := 1) (by decide +kernel) rfl (by decide) (Nat.le_of_ble_eq_true rfl) rfl dX0_placeNew_39 ?_
      cases hm
      exact q_vret (pc := 42) C dX0_placeNew_42
    · replace hm := hm_f c2 hm
      refine q_aload_n (pc := 30) C dX0_placeNew_30 rfl 1 rfl ?_
      obtain ⟨S2, h5, hm⟩ := o1_some hm
      refine q_callU (pc := 31) (k := 12) (As := []) (rest := []) (T := TX0) (owner := "Tessera$Store") (x := ⟨"Tessera$Copying", "breakDown", "()V"⟩) C (c_St_breakDown_Cop_12 hi h5) (by decide) (ce_12 _ _ _) (ci := 0) rfl (Or.inl rfl) tw_303 tw_304 tw_306 tw_305 tw_62 tw_307 (nA := 0) (by decide +kernel) rfl (by decide) (Nat.le_of_ble_eq_true rfl) rfl dX0_placeNew_31 ?_
      refine q_goto (pc := 34) (tgt := 42) C dX0_placeNew_34 (by decide) ?_
      cases hm
      exact q_vret (pc := 42) C dX0_placeNew_42
  · replace hm := hm_f c1 hm
    refine q_aload_n (pc := 17) C dX0_placeNew_17 rfl 1 rfl ?_
    obtain ⟨r4, S3, h6, hm⟩ := ob_some hm
    refine q_callV (pc := 18) (k := 12) (As := []) (rest := []) (T := TX0) C (c_Cop_collectNow hi h6) (by decide) (ce_12 _ _ _) (ci := 0) rfl tw_238 tw_239 tw_240 tw_26 tw_241 (nA := 0) (by decide +kernel) rfl (by decide) (Nat.le_of_ble_eq_true rfl) rfl dX0_placeNew_18 ?_
    refine q_pop (pc := 21) C dX0_placeNew_21 rfl ?_
    refine q_iload_n (pc := 22) C dX0_placeNew_22 rfl 0 rfl ?_
    refine q_aload_n (pc := 23) C dX0_placeNew_23 rfl 1 rfl ?_
    obtain ⟨r5, h7, hm⟩ := o1_some hm
    refine q_callV (pc := 24) (k := 12) (As := []) (rest := [.int r1]) (T := TX0) C (c_Cop_freeTogether hi h7) (by decide) (ce_12 _ _ _) (ci := 0) rfl tw_232 tw_233 tw_234 tw_26 tw_235 (nA := 0) (by decide +kernel) rfl (by decide) (Nat.le_of_ble_eq_true rfl) rfl dX0_placeNew_24 ?_
    refine q_icmp_le (pc := 27) (tgt := 37) C dX0_placeNew_27 (by decide) (fun c3 => ?_) (fun c3 => ?_)
    · replace hm := hm_t c3 hm
      refine q_aload_n (pc := 37) C dX0_placeNew_37 rfl 1 rfl ?_
      refine q_iload_n (pc := 38) C dX0_placeNew_38 rfl 2 rfl ?_
      obtain ⟨S4, h8, hm⟩ := o1_some hm
      refine q_callV (pc := 39) (k := 12) (As := [.int a1]) (rest := []) (T := TX0) C (c_Cop_putBehind hi h8) (by decide) (ce_12 _ _ _) (ci := 0) rfl tw_290 tw_291 tw_292 tw_26 tw_293 (nA := 1) (by decide +kernel) rfl (by decide) (Nat.le_of_ble_eq_true rfl) rfl dX0_placeNew_39 ?_
      cases hm
      exact q_vret (pc := 42) C dX0_placeNew_42
    · replace hm := hm_f c3 hm
      refine q_aload_n (pc := 30) C dX0_placeNew_30 rfl 1 rfl ?_
      obtain ⟨S5, h9, hm⟩ := o1_some hm
      refine q_callU (pc := 31) (k := 12) (As := []) (rest := []) (T := TX0) (owner := "Tessera$Store") (x := ⟨"Tessera$Copying", "breakDown", "()V"⟩) C (c_St_breakDown_Cop_12 hi h9) (by decide) (ce_12 _ _ _) (ci := 0) rfl (Or.inl rfl) tw_303 tw_304 tw_306 tw_305 tw_62 tw_307 (nA := 0) (by decide +kernel) rfl (by decide) (Nat.le_of_ble_eq_true rfl) rfl dX0_placeNew_31 ?_
      refine q_goto (pc := 34) (tgt := 42) C dX0_placeNew_34 (by decide) ?_
      cases hm
      exact q_vret (pc := 42) C dX0_placeNew_42
