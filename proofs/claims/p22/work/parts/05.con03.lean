set_option maxRecDepth 100000 in
theorem c_Cou_placeNew {G : Gx} (hi : qinj (gad G)) {S : St} {a1 : Int32} {zS : St} (hm : m_Cou_placeNew S a1 = some zS) : QMet G yX1_placeNew cX1_placeNew 3 none 5 111 [.ref (gad G 42), .int a1] S none zS := by
  refine q_entry (by decide +kernel) rfl hi (Nat.le_of_ble_eq_true rfl) ?_
  intro X C
  refine q_lv (lv' := [(0, .ref (gad G 42)), (1, .int a1)]) [0, 1] rfl ?_
  unfold m_Cou_placeNew at hm
  refine q_aload_n (pc := 0) C dX1_placeNew_0 rfl 0 rfl ?_
  refine q_iload_n (pc := 1) C dX1_placeNew_1 rfl 1 rfl ?_
  obtain ⟨r1, S1, h1, hm⟩ := ob_some hm
  refine q_callU (pc := 2) (k := 42) (As := [.int a1]) (rest := []) (T := TX1) (owner := "Tessera$Scattered") (x := ⟨"Tessera$Counting", "firstPlaceFor", "(I)I"⟩) C (c_Sc_firstPlaceFor_42 hi h1) (by decide) (ce_42 _ _ _) (ci := 1) rfl (Or.inl rfl) tw_313 tw_314 tw_316 tw_315 tw_78 tw_317 (nA := 1) (by decide +kernel) rfl (by decide) (Nat.le_of_ble_eq_true rfl) rfl dX1_placeNew_2 ?_
  refine q_istore_n (pc := 5) (lv' := [(2, .int r1), (0, .ref (gad G 42)), (1, .int a1)]) C dX1_placeNew_5 rfl (by decide) rfl ?_
  refine q_iload_n (pc := 6) C dX1_placeNew_6 rfl 0 rfl ?_
  refine q_iconst (pc := 7) (v := (-1 : Int32)) C dX1_placeNew_7 (by decide) ?_
  refine q_icmp_ne (pc := 8) (tgt := 22) C dX1_placeNew_8 (by decide) (fun c1 => ?_) (fun c1 => ?_)
  · replace hm := hm_f c1 hm
    refine q_iload_n (pc := 22) C dX1_placeNew_22 rfl 0 rfl ?_
    refine q_iconst (pc := 23) (v := (-1 : Int32)) C dX1_placeNew_23 (by decide) ?_
    refine q_icmp_ne (pc := 24) (tgt := 32) C dX1_placeNew_24 (by decide) (fun c2 => ?_) (fun c2 => ?_)
    · replace hm := hm_f c2 hm
      refine q_aload_n (pc := 32) C dX1_placeNew_32 rfl 1 rfl ?_
      refine q_iload_n (pc := 33) C dX1_placeNew_33 rfl 2 rfl ?_
      refine q_iload_n (pc := 34) C dX1_placeNew_34 rfl 0 rfl ?_
      obtain ⟨S2, h2, hm⟩ := o1_some hm
      refine q_callU (pc := 35) (k := 42) (As := [.int a1, .int r1]) (rest := []) (T := TX1) (owner := "Tessera$Store") (x := ⟨"Tessera$Counting", "put", "(II)V"⟩) C (c_St_put_42 hi h2) (by decide) (ce_42 _ _ _) (ci := 1) rfl (Or.inl rfl) tw_399 tw_400 tw_297 tw_401 tw_62 tw_298 (nA := 2) (by decide +kernel) rfl (by decide) (Nat.le_of_ble_eq_true rfl) rfl dX1_placeNew_35 ?_
      refine q_aload_n (pc := 38) C dX1_placeNew_38 rfl 1 rfl ?_
      refine q_get (pc := 39) (T := TX1) (v := .ref (gad G 1)) C (by decide) (ce_42 _ _ _) (ci := 1) rfl inlX1 (j := 1) (by decide) rfl tw_311 (Or.inr tw_312) dX1_placeNew_39 ?_
      refine q_iload_n (pc := 42) C dX1_placeNew_42 rfl 2 rfl ?_
      obtain ⟨r2, h3, hm⟩ := o1_some hm
      refine q_callV (pc := 43) (k := 1) (As := [.int a1]) (rest := []) (T := TX2) C (c_Gr_isThing hi h3) (by decide) (ce_1 _ _ _) (ci := 2) rfl tw_378 tw_300 tw_301 tw_13 tw_302 (nA := 1) (by decide +kernel) rfl (by decide) (Nat.le_of_ble_eq_true rfl) rfl dX1_placeNew_43 ?_
      refine q_if_eq (pc := 46) (tgt := 63) C dX1_placeNew_46 (by decide) (fun c3 => ?_) (fun c3 => ?_)
      · replace hm := hm_t c3 hm
        cases hm
        exact q_vret (pc := 63) C dX1_placeNew_63
      · replace hm := hm_f c3 hm
        refine q_aload_n (pc := 49) C dX1_placeNew_49 rfl 1 rfl ?_
        refine q_get (pc := 50) (T := TX1) (v := .ref (gad G 46)) C (by decide) (ce_42 _ _ _) (ci := 1) rfl inlX1 (j := 11) (by decide) rfl tw_85 (Or.inl rfl) dX1_placeNew_50 ?_
        refine q_iload_n (pc := 53) C dX1_placeNew_53 rfl 2 rfl ?_
        refine q_iconst (pc := 54) (v := (0 : Int32)) C dX1_placeNew_54 (by decide) ?_
        obtain ⟨b1, hm⟩ := oi_some hm
        refine q_iast (pc := 55) C (by decide) (fun _ => ce_46 _ _ _) (ty_46 _) b1 dX1_placeNew_55 ?_
        refine q_aload_n (pc := 56) C dX1_placeNew_56 rfl 1 rfl ?_
        refine q_get (pc := 57) (T := TX1) (v := .ref (gad G 47)) C (by decide) (ce_42 _ _ _) (ci := 1) rfl inlX1 (j := 12) (by decide) rfl tw_86 (Or.inl rfl) dX1_placeNew_57 ?_
        refine q_iload_n (pc := 60) C dX1_placeNew_60 rfl 2 rfl ?_
        refine q_iconst (pc := 61) (v := (0 : Int32)) C dX1_placeNew_61 (by decide) ?_
        obtain ⟨b2, hm⟩ := oi_some hm
        refine q_zast0 (pc := 62) C (by decide) (fun _ => ce_47 _ _ _) (ty_47 _) b2 dX1_placeNew_62 ?_
        cases hm
        exact q_vret (pc := 63) C dX1_placeNew_63
    · replace hm := hm_t c2 hm
      refine q_aload_n (pc := 27) C dX1_placeNew_27 rfl 1 rfl ?_
      obtain ⟨S3, h4, hm⟩ := o1_some hm
      refine q_callU (pc := 28) (k := 42) (As := []) (rest := []) (T := TX1) (owner := "Tessera$Store") (x := ⟨"Tessera$Counting", "breakDown", "()V"⟩) C (c_St_breakDown_Cou_42 hi h4) (by decide) (ce_42 _ _ _) (ci := 1) rfl (Or.inl rfl) tw_396 tw_397 tw_306 tw_398 tw_62 tw_307 (nA := 0) (by decide +kernel) rfl (by decide) (Nat.le_of_ble_eq_true rfl) rfl dX1_placeNew_28 ?_
      cases hm
      exact q_vret (pc := 31) C dX1_placeNew_31
  · replace hm := hm_t c1 hm
    refine q_aload_n (pc := 11) C dX1_placeNew_11 rfl 1 rfl ?_
    obtain ⟨r3, S4, h5, hm⟩ := ob_some hm
    refine q_callV (pc := 12) (k := 42) (As := []) (rest := []) (T := TX1) C (c_Cou_collectNow hi h5) (by decide) (ce_42 _ _ _) (ci := 1) rfl tw_346 tw_347 tw_348 tw_22 tw_349 (nA := 0) (by decide +kernel) rfl (by decide) (Nat.le_of_ble_eq_true rfl) rfl dX1_placeNew_12 ?_
    refine q_pop (pc := 15) C dX1_placeNew_15 rfl ?_
    refine q_aload_n (pc := 16) C dX1_placeNew_16 rfl 1 rfl ?_
    refine q_iload_n (pc := 17) C dX1_placeNew_17 rfl 2 rfl ?_
    obtain ⟨r4, S5, h6, hm⟩ := ob_some hm
    refine q_callU (pc := 18) (k := 42) (As := [.int a1]) (rest := []) (T := TX1) (owner := "Tessera$Scattered") (x := ⟨"Tessera$Counting", "firstPlaceFor", "(I)I"⟩) C (c_Sc_firstPlaceFor_42 hi h6) (by decide) (ce_42 _ _ _) (ci := 1) rfl (Or.inl rfl) tw_313 tw_314 tw_316 tw_315 tw_78 tw_317 (nA := 1) (by decide +kernel) rfl (by decide) (Nat.le_of_ble_eq_true rfl) rfl dX1_placeNew_18 ?_
    refine q_istore_n (pc := 21) (lv' := [(2, .int r4), (0, .ref (gad G 42)), (1, .int a1)]) C dX1_placeNew_21 rfl (by decide) rfl ?_
    refine q_iload_n (pc := 22) C dX1_placeNew_22 rfl 0 rfl ?_
    refine q_iconst (pc := 23) (v := (-1 : Int32)) C dX1_placeNew_23 (by decide) ?_
    refine q_icmp_ne (pc := 24) (tgt := 32) C dX1_placeNew_24 (by decide) (fun c4 => ?_) (fun c4 => ?_)
    · replace hm := hm_f c4 hm
      refine q_aload_n (pc := 32) C dX1_placeNew_32 rfl 1 rfl ?_
      refine q_iload_n (pc := 33) C dX1_placeNew_33 rfl 2 rfl ?_
      refine q_iload_n (pc := 34) C dX1_placeNew_34 rfl 0 rfl ?_
      obtain ⟨S6, h7, hm⟩ := o1_some hm
      refine q_callU (pc := 35) (k := 42) (As := [.int a1, .int r4]) (rest := []) (T := TX1) (owner := "Tessera$Store") (x := ⟨"Tessera$Counting", "put", "(II)V"⟩) C (c_St_put_42 hi h7) (by decide) (ce_42 _ _ _) (ci := 1) rfl (Or.inl rfl) tw_399 tw_400 tw_297 tw_401 tw_62 tw_298 (nA := 2) (by decide +kernel) rfl (by decide) (Nat.le_of_ble_eq_true rfl) rfl dX1_placeNew_35 ?_
      refine q_aload_n (pc := 38) C dX1_placeNew_38 rfl 1 rfl ?_
      refine q_get (pc := 39) (T := TX1) (v := .ref (gad G 1)) C (by decide) (ce_42 _ _ _) (ci := 1) rfl inlX1 (j := 1) (by decide) rfl tw_311 (Or.inr tw_312) dX1_placeNew_39 ?_
      refine q_iload_n (pc := 42) C dX1_placeNew_42 rfl 2 rfl ?_
      obtain ⟨r5, h8, hm⟩ := o1_some hm
      refine q_callV (pc := 43) (k := 1) (As := [.int a1]) (rest := []) (T := TX2) C (c_Gr_isThing hi h8) (by decide) (ce_1 _ _ _) (ci := 2) rfl tw_378 tw_300 tw_301 tw_13 tw_302 (nA := 1) (by decide +kernel) rfl (by decide) (Nat.le_of_ble_eq_true rfl) rfl dX1_placeNew_43 ?_
      refine q_if_eq (pc := 46) (tgt := 63) C dX1_placeNew_46 (by decide) (fun c5 => ?_) (fun c5 => ?_)
      · replace hm := hm_t c5 hm
        cases hm
        exact q_vret (pc := 63) C dX1_placeNew_63
      · replace hm := hm_f c5 hm
        refine q_aload_n (pc := 49) C dX1_placeNew_49 rfl 1 rfl ?_
        refine q_get (pc := 50) (T := TX1) (v := .ref (gad G 46)) C (by decide) (ce_42 _ _ _) (ci := 1) rfl inlX1 (j := 11) (by decide) rfl tw_85 (Or.inl rfl) dX1_placeNew_50 ?_
        refine q_iload_n (pc := 53) C dX1_placeNew_53 rfl 2 rfl ?_
        refine q_iconst (pc := 54) (v := (0 : Int32)) C dX1_placeNew_54 (by decide) ?_
        obtain ⟨b3, hm⟩ := oi_some hm
        refine q_iast (pc := 55) C (by decide) (fun _ => ce_46 _ _ _) (ty_46 _) b3 dX1_placeNew_55 ?_
        refine q_aload_n (pc := 56) C dX1_placeNew_56 rfl 1 rfl ?_
        refine q_get (pc := 57) (T := TX1) (v := .ref (gad G 47)) C (by decide) (ce_42 _ _ _) (ci := 1) rfl inlX1 (j := 12) (by decide) rfl tw_86 (Or.inl rfl) dX1_placeNew_57 ?_
        refine q_iload_n (pc := 60) C dX1_placeNew_60 rfl 2 rfl ?_
        refine q_iconst (pc := 61) (v := (0 : Int32)) C dX1_placeNew_61 (by decide) ?_
        obtain ⟨b4, hm⟩ := oi_some hm
        refine q_zast0 (pc := 62) C (by decide) (fun _ => ce_47 _ _ _) (ty_47 _) b4 dX1_placeNew_62 ?_
        cases hm
        exact q_vret (pc := 63) C dX1_placeNew_63
    · replace hm := hm_t c4 hm
      refine q_aload_n (pc := 27) C dX1_placeNew_27 rfl 1 rfl ?_
      obtain ⟨S7, h9, hm⟩ := o1_some hm
      refine q_callU (pc := 28) (k := 42) (As := []) (rest := []) (T := TX1) (owner := "Tessera$Store") (x := ⟨"Tessera$Counting", "breakDown", "()V"⟩) C (c_St_breakDown_Cou_42 hi h9) (by decide) (ce_42 _ _ _) (ci := 1) rfl (Or.inl rfl) tw_396 tw_397 tw_306 tw_398 tw_62 tw_307 (nA := 0) (by decide +kernel) rfl (by decide) (Nat.le_of_ble_eq_true rfl) rfl dX1_placeNew_28 ?_
      cases hm
      exact q_vret (pc := 31) C dX1_placeNew_31
set_option maxRecDepth 100000 in
theorem c_Row_get_36 {G : Gx} (hi : qinj (gad G)) {S : St} {a1 : Int32} {zr : Int32} (hm : m_Row_get 36 S a1 = some zr) : QMet G yX5_get cX5_get 2 (some .int) 0 0 [.ref (gad G 36), .int a1] S (some (.int zr)) S := by
  refine q_entry (by decide +kernel) rfl hi (Nat.le_of_ble_eq_true rfl) ?_
  intro X C
  refine q_lv (lv' := [(0, .ref (gad G 36)), (1, .int a1)]) [0, 1] rfl ?_
  unfold m_Row_get at hm
  refine q_iload_n (pc := 0) C dX5_get_0 rfl 1 rfl ?_
  refine q_if_lt (pc := 1) (tgt := 21) C dX5_get_1 (by decide) (fun c1 => ?_) (fun c1 => ?_)
  · replace hm := hm_t c1 hm
    refine q_iconst (pc := 21) (v := (-1 : Int32)) C dX5_get_21 (by decide) ?_
    cases hm
    exact q_iret (pc := 22) C dX5_get_22
  · replace hm := hm_f c1 hm
    refine q_iload_n (pc := 4) C dX5_get_4 rfl 1 rfl ?_
    refine q_aload_n (pc := 5) C dX5_get_5 rfl 0 rfl ?_
    refine q_get (pc := 6) (T := TX5) (v := .int (S 36 2)) C (by decide) (ce_36 _ _ _) (ci := 5) rfl inlX5 (j := 2) (by decide) rfl tw_127 (Or.inl rfl) dX5_get_6 ?_
    refine q_icmp_ge (pc := 9) (tgt := 21) C dX5_get_9 (by decide) (fun c2 => ?_) (fun c2 => ?_)
    · replace hm := hm_t c2 hm
      refine q_iconst (pc := 21) (v := (-1 : Int32)) C dX5_get_21 (by decide) ?_
      cases hm
      exact q_iret (pc := 22) C dX5_get_22
    · replace hm := hm_f c2 hm
      refine q_aload_n (pc := 12) C dX5_get_12 rfl 0 rfl ?_
      refine q_get (pc := 13) (T := TX5) (v := .ref (gad G 37)) C (by decide) (ce_36 _ _ _) (ci := 5) rfl inlX5 (j := 0) (by decide) rfl tw_49 (Or.inl rfl) dX5_get_13 ?_
      refine q_iload_n (pc := 16) C dX5_get_16 rfl 1 rfl ?_
      obtain ⟨b1, hm⟩ := oi_some hm
      refine q_iald (pc := 17) C (by decide) (ce_37 _ _ _) (ty_37 _) b1 dX5_get_17 ?_
      refine q_goto (pc := 18) (tgt := 22) C dX5_get_18 (by decide) ?_
      cases hm
      exact q_iret (pc := 22) C dX5_get_22
set_option maxRecDepth 100000 in
theorem w_St_countHad_31_L4 {G : Gx} (hi : qinj (gad G)) {X : Cx} (C : QC G X cX7_countHad 3 RX7 1 21 (some .int)) {Q : State → Prop} : ∀ (n : Nat) (S : St) (v1 : Int32) (v2 : Int32) (x1 : Int32), m_St_countHad_L4 31 1 n S v1 v2 = some x1 → QW G X 3 Q 37 [(1, .int x1)] [] S → QW G X 3 Q 4 [(0, .ref (gad G 31)), (1, .int v1), (2, .int v2)] [] S := by
  intro n
  induction n with
  | zero =>
    intro S v1 v2 x1 hm kk
    rw [m_St_countHad_L4] at hm
    cases hm
  | succ n ih =>
    intro S v1 v2 x1 hm kk
    rw [m_St_countHad_L4] at hm
    refine q_iload_n (pc := 4) C dX7_countHad_4 rfl 2 rfl ?_
    refine q_aload_n (pc := 5) C dX7_countHad_5 rfl 0 rfl ?_
    refine q_get (pc := 6) (T := TX3) (v := .ref (gad G 1)) C (by decide) (ce_31 _ _ _) (ci := 3) rfl inlX3 (j := 1) (by decide) rfl tw_67 (Or.inl rfl) dX7_countHad_6 ?_
    refine q_get (pc := 9) (T := TX2) (v := .int (S 1 6)) C (by decide) (ce_1 _ _ _) (ci := 2) rfl inlX2 (j := 6) (by decide) rfl tw_252 (Or.inl rfl) dX7_countHad_9 ?_
    refine q_icmp_ge (pc := 12) (tgt := 37) C dX7_countHad_12 (by decide) (fun c1 => ?_) (fun c1 => ?_)
    · replace hm := hm_t c1 hm
      cases hm
      refine q_lv (lv' := [(1, .int v1)]) [1] rfl ?_
      exact kk
    · replace hm := hm_f c1 hm
      refine q_iload_n (pc := 15) C dX7_countHad_15 rfl 1 rfl ?_
      refine q_aload_n (pc := 16) C dX7_countHad_16 rfl 0 rfl ?_
      refine q_iload_n (pc := 17) C dX7_countHad_17 rfl 2 rfl ?_
      obtain ⟨r1, h1, hm⟩ := o1_some hm
      refine q_callU (pc := 18) (k := 31) (As := [.int v2]) (rest := [.int v1]) (T := TX3) (owner := "Tessera$Store") (x := ⟨"Tessera$Store", "has", "(I)Z"⟩) C (c_St_has_31 hi h1) (by decide) (ce_31 _ _ _) (ci := 3) rfl (Or.inl rfl) tw_253 tw_254 tw_256 tw_259 tw_62 tw_257 (nA := 1) (by decide +kernel) rfl (by decide) (Nat.le_of_ble_eq_true rfl) rfl dX7_countHad_18 ?_
      refine q_if_eq (pc := 21) (tgt := 28) C dX7_countHad_21 (by decide) (fun c2 => ?_) (fun c2 => ?_)
      · replace hm := hm_t c2 hm
        refine q_iconst (pc := 28) (v := (0 : Int32)) C dX7_countHad_28 (by decide) ?_
        refine q_iadd (pc := 29) C dX7_countHad_29 ?_
        refine q_istore_n (pc := 30) (lv' := [(1, .int (v1 + (0 : Int32))), (0, .ref (gad G 31)), (2, .int v2)]) C dX7_countHad_30 rfl (by decide) rfl ?_
        refine q_iinc (pc := 31) (k := 2) (v := (v2 + (1 : Int32))) (lv' := [(2, .int (v2 + (1 : Int32))), (1, .int (v1 + (0 : Int32))), (0, .ref (gad G 31))]) C dX7_countHad_31 rfl rfl (by decide) rfl ?_
        refine q_goto (pc := 34) (tgt := 4) C dX7_countHad_34 (by decide) ?_
        refine q_lv (lv' := [(0, .ref (gad G 31)), (1, .int (v1 + (0 : Int32))), (2, .int (v2 + (1 : Int32)))]) [2, 1, 0] rfl ?_
        exact ih _ _ _ _ hm kk
      · replace hm := hm_f c2 hm
        refine q_iconst (pc := 24) (v := (1 : Int32)) C dX7_countHad_24 (by decide) ?_
        refine q_goto (pc := 25) (tgt := 29) C dX7_countHad_25 (by decide) ?_
        refine q_iadd (pc := 29) C dX7_countHad_29 ?_
        refine q_istore_n (pc := 30) (lv' := [(1, .int (v1 + (1 : Int32))), (0, .ref (gad G 31)), (2, .int v2)]) C dX7_countHad_30 rfl (by decide) rfl ?_
        refine q_iinc (pc := 31) (k := 2) (v := (v2 + (1 : Int32))) (lv' := [(2, .int (v2 + (1 : Int32))), (1, .int (v1 + (1 : Int32))), (0, .ref (gad G 31))]) C dX7_countHad_31 rfl rfl (by decide) rfl ?_
        refine q_goto (pc := 34) (tgt := 4) C dX7_countHad_34 (by decide) ?_
        refine q_lv (lv' := [(0, .ref (gad G 31)), (1, .int (v1 + (1 : Int32))), (2, .int (v2 + (1 : Int32)))]) [2, 1, 0] rfl ?_
        exact ih _ _ _ _ hm kk
set_option maxRecDepth 100000 in
theorem c_St_countHad_31 {G : Gx} (hi : qinj (gad G)) {S : St}  {zr : Int32} (hm : m_St_countHad 31 1 S  = some zr) : QMet G yX7_countHad cX7_countHad 3 (some .int) 1 21 [.ref (gad G 31)] S (some (.int zr)) S := by
  refine q_entry (by decide +kernel) rfl hi (Nat.le_of_ble_eq_true rfl) ?_
  intro X C
  refine q_lv (lv' := [(0, .ref (gad G 31))]) [0] rfl ?_
  unfold m_St_countHad at hm
  refine q_iconst (pc := 0) (v := (0 : Int32)) C dX7_countHad_0 (by decide) ?_
  refine q_istore_n (pc := 1) (lv' := [(1, .int (0 : Int32)), (0, .ref (gad G 31))]) C dX7_countHad_1 rfl (by decide) rfl ?_
  refine q_iconst (pc := 2) (v := (0 : Int32)) C dX7_countHad_2 (by decide) ?_
  refine q_istore_n (pc := 3) (lv' := [(2, .int (0 : Int32)), (1, .int (0 : Int32)), (0, .ref (gad G 31))]) C dX7_countHad_3 rfl (by decide) rfl ?_
  refine q_lv (lv' := [(0, .ref (gad G 31)), (1, .int (0 : Int32)), (2, .int (0 : Int32))]) [2, 1, 0] rfl ?_
  obtain ⟨y1, h1, hm⟩ := o1_some hm
  refine w_St_countHad_31_L4 hi C 200 _ _ _ _ h1 ?_
  refine q_iload_n (pc := 37) C dX7_countHad_37 rfl 0 rfl ?_
  cases hm
  exact q_iret (pc := 38) C dX7_countHad_38
set_option maxRecDepth 100000 in
theorem c_St_letGo_31 {G : Gx} (hi : qinj (gad G)) {S : St} {a1 : Int32} {zS : St} (hm : m_St_letGo 31 1 S a1 = some zS) : QMet G yX7_letGo cX7_letGo 2 none 0 0 [.ref (gad G 31), .int a1] S none zS := by
  refine q_entry (by decide +kernel) rfl hi (Nat.le_of_ble_eq_true rfl) ?_
  intro X C
  refine q_lv (lv' := [(0, .ref (gad G 31)), (1, .int a1)]) [0, 1] rfl ?_
  unfold m_St_letGo at hm
  refine q_iload_n (pc := 0) C dX7_letGo_0 rfl 1 rfl ?_
  refine q_if_lt (pc := 1) (tgt := 17) C dX7_letGo_1 (by decide) (fun c1 => ?_) (fun c1 => ?_)
  · replace hm := hm_t c1 hm
    cases hm
    exact q_vret (pc := 17) C dX7_letGo_17
  · replace hm := hm_f c1 hm
    refine q_iload_n (pc := 4) C dX7_letGo_4 rfl 1 rfl ?_
    refine q_bipush (pc := 5) (v := (80 : Int32)) C dX7_letGo_5 (by decide) ?_
    refine q_icmp_ge (pc := 7) (tgt := 17) C dX7_letGo_7 (by decide) (fun c2 => ?_) (fun c2 => ?_)
    · replace hm := hm_t c2 hm
      cases hm
      exact q_vret (pc := 17) C dX7_letGo_17
    · replace hm := hm_f c2 hm
      refine q_aload_n (pc := 10) C dX7_letGo_10 rfl 0 rfl ?_
      refine q_get (pc := 11) (T := TX3) (v := .ref (gad G 32)) C (by decide) (ce_31 _ _ _) (ci := 3) rfl inlX3 (j := 8) (by decide) rfl tw_65 (Or.inl rfl) dX7_letGo_11 ?_
      refine q_iload_n (pc := 14) C dX7_letGo_14 rfl 1 rfl ?_
      refine q_iconst (pc := 15) (v := (0 : Int32)) C dX7_letGo_15 (by decide) ?_
      obtain ⟨b1, hm⟩ := oi_some hm
      refine q_zast0 (pc := 16) C (by decide) (fun _ => ce_32 _ _ _) (ty_32 _) b1 dX7_letGo_16 ?_
      cases hm
      exact q_vret (pc := 17) C dX7_letGo_17
set_option maxRecDepth 100000 in
theorem w_Mar_sweep_L15 {G : Gx} (hi : qinj (gad G)) {X : Cx} (C : QC G X cX3_sweep 2 RX3 2 43 none) {Q : State → Prop} : ∀ (n : Nat) (S : St) (v1 : Int32) (zS : St), m_Mar_sweep_L15 n S v1 = some zS → QW G X 2 Q 51 [(0, .ref (gad G 31))] [] zS → QW G X 2 Q 15 [(0, .ref (gad G 31)), (1, .int v1)] [] S := by
  intro n
  induction n with
  | zero =>
    intro S v1 zS hm kk
    rw [m_Mar_sweep_L15] at hm
    cases hm
  | succ n ih =>
    intro S v1 zS hm kk
    rw [m_Mar_sweep_L15] at hm
    refine q_iload_n (pc := 15) C dX3_sweep_15 rfl 1 rfl ?_
    refine q_aload_n (pc := 16) C dX3_sweep_16 rfl 0 rfl ?_
    refine q_get (pc := 17) (T := TX3) (v := .ref (gad G 1)) C (by decide) (ce_31 _ _ _) (ci := 3) rfl inlX3 (j := 1) (by decide) rfl tw_421 (Or.inr tw_422) dX3_sweep_17 ?_
    refine q_get (pc := 20) (T := TX2) (v := .int (S 1 6)) C (by decide) (ce_1 _ _ _) (ci := 2) rfl inlX2 (j := 6) (by decide) rfl tw_455 (Or.inl rfl) dX3_sweep_20 ?_
    refine q_icmp_ge (pc := 23) (tgt := 51) C dX3_sweep_23 (by decide) (fun c1 => ?_) (fun c1 => ?_)
    · replace hm := hm_t c1 hm
      cases hm
      refine q_lv (lv' := [(0, .ref (gad G 31))]) [0] rfl ?_
      exact kk
    · replace hm := hm_f c1 hm
      refine q_aload_n (pc := 26) C dX3_sweep_26 rfl 0 rfl ?_
      refine q_iload_n (pc := 27) C dX3_sweep_27 rfl 1 rfl ?_
      obtain ⟨r1, h1, hm⟩ := o1_some hm
      refine q_callV (pc := 28) (k := 31) (As := [.int v1]) (rest := []) (T := TX3) C (c_Mar_colourOf hi h1) (by decide) (ce_31 _ _ _) (ci := 3) rfl tw_431 tw_432 tw_433 tw_19 tw_434 (nA := 1) (by decide +kernel) rfl (by decide) (Nat.le_of_ble_eq_true rfl) rfl dX3_sweep_28 ?_
      refine q_if_ne (pc := 31) (tgt := 39) C dX3_sweep_31 (by decide) (fun c2 => ?_) (fun c2 => ?_)
      · replace hm := hm_f c2 hm
        refine q_aload_n (pc := 39) C dX3_sweep_39 rfl 0 rfl ?_
        refine q_iload_n (pc := 40) C dX3_sweep_40 rfl 1 rfl ?_
        refine q_iconst (pc := 41) (v := (0 : Int32)) C dX3_sweep_41 (by decide) ?_
        obtain ⟨S1, h2, hm⟩ := o1_some hm
        refine q_callV (pc := 42) (k := 31) (As := [.int v1, .int (0 : Int32)]) (rest := []) (T := TX3) C (c_Mar_paint hi h2) (by decide) (ce_31 _ _ _) (ci := 3) rfl tw_439 tw_440 tw_441 tw_19 tw_442 (nA := 2) (by decide +kernel) rfl (by decide) (Nat.le_of_ble_eq_true rfl) rfl dX3_sweep_42 ?_
        refine q_iinc (pc := 45) (k := 1) (v := (v1 + (1 : Int32))) (lv' := [(1, .int (v1 + (1 : Int32))), (0, .ref (gad G 31))]) C dX3_sweep_45 rfl rfl (by decide) rfl ?_
        refine q_goto (pc := 48) (tgt := 15) C dX3_sweep_48 (by decide) ?_
        refine q_lv (lv' := [(0, .ref (gad G 31)), (1, .int (v1 + (1 : Int32)))]) [1, 0] rfl ?_
        exact ih _ _ _ hm kk
      · replace hm := hm_t c2 hm
        refine q_aload_n (pc := 34) C dX3_sweep_34 rfl 0 rfl ?_
        refine q_iload_n (pc := 35) C dX3_sweep_35 rfl 1 rfl ?_
        obtain ⟨S2, h3, hm⟩ := o1_some hm
        refine q_callU (pc := 36) (k := 31) (As := [.int v1]) (rest := []) (T := TX3) (owner := "Tessera$Store") (x := ⟨"Tessera$Marking", "letGo", "(I)V"⟩) C (c_St_letGo_31 hi h3) (by decide) (ce_31 _ _ _) (ci := 3) rfl (Or.inl rfl) tw_461 tw_462 tw_394 tw_463 tw_62 tw_395 (nA := 1) (by decide +kernel) rfl (by decide) (Nat.le_of_ble_eq_true rfl) rfl dX3_sweep_36 ?_
        refine q_aload_n (pc := 39) C dX3_sweep_39 rfl 0 rfl ?_
        refine q_iload_n (pc := 40) C dX3_sweep_40 rfl 1 rfl ?_
        refine q_iconst (pc := 41) (v := (0 : Int32)) C dX3_sweep_41 (by decide) ?_
        obtain ⟨S3, h4, hm⟩ := o1_some hm
        refine q_callV (pc := 42) (k := 31) (As := [.int v1, .int (0 : Int32)]) (rest := []) (T := TX3) C (c_Mar_paint hi h4) (by decide) (ce_31 _ _ _) (ci := 3) rfl tw_439 tw_440 tw_441 tw_19 tw_442 (nA := 2) (by decide +kernel) rfl (by decide) (Nat.le_of_ble_eq_true rfl) rfl dX3_sweep_42 ?_
        refine q_iinc (pc := 45) (k := 1) (v := (v1 + (1 : Int32))) (lv' := [(1, .int (v1 + (1 : Int32))), (0, .ref (gad G 31))]) C dX3_sweep_45 rfl rfl (by decide) rfl ?_
        refine q_goto (pc := 48) (tgt := 15) C dX3_sweep_48 (by decide) ?_
        refine q_lv (lv' := [(0, .ref (gad G 31)), (1, .int (v1 + (1 : Int32)))]) [1, 0] rfl ?_
        exact ih _ _ _ hm kk
set_option maxRecDepth 100000 in
theorem c_Mar_sweep {G : Gx} (hi : qinj (gad G)) {S : St}  {zS : St} (hm : m_Mar_sweep S  = some zS) : QMet G yX3_sweep cX3_sweep 2 none 2 43 [.ref (gad G 31)] S none zS := by
  refine q_entry (by decide +kernel) rfl hi (Nat.le_of_ble_eq_true rfl) ?_
  intro X C
  refine q_lv (lv' := [(0, .ref (gad G 31))]) [0] rfl ?_
  unfold m_Mar_sweep at hm
  refine q_aload_n (pc := 0) C dX3_sweep_0 rfl 0 rfl ?_
  refine q_dup (pc := 1) C dX3_sweep_1 rfl ?_
  refine q_get (pc := 2) (T := TX3) (v := .int (S 31 3)) C (by decide) (ce_31 _ _ _) (ci := 3) rfl inlX3 (j := 3) (by decide) rfl tw_449 (Or.inr tw_450) dX3_sweep_2 ?_
  refine q_aload_n (pc := 5) C dX3_sweep_5 rfl 0 rfl ?_
  obtain ⟨r1, h1, hm⟩ := o1_some hm
  refine q_callU (pc := 6) (k := 31) (As := []) (rest := [.int (S 31 3), .ref (gad G 31)]) (T := TX3) (owner := "Tessera$Store") (x := ⟨"Tessera$Marking", "countHad", "()I"⟩) C (c_St_countHad_31 hi h1) (by decide) (ce_31 _ _ _) (ci := 3) rfl (Or.inl rfl) tw_458 tw_459 tw_250 tw_460 tw_62 tw_251 (nA := 0) (by decide +kernel) rfl (by decide) (Nat.le_of_ble_eq_true rfl) rfl dX3_sweep_6 ?_
  refine q_iadd (pc := 9) C dX3_sweep_9 ?_
  refine q_put (pc := 10) (T := TX3) (ty := .int) C tyX3 tyX3_ok nmX3 (by decide) (ce_31 _ _ _) (pe_31_3 _ _ _ _) (ci := 3) rfl inlX3 (j := 3) (by decide) (Nat.le_of_ble_eq_true rfl) tw_449 (Or.inr tw_450) rfl (by decide +kernel) rfl rfl dX3_sweep_10 ?_
  refine q_iconst (pc := 13) (v := (0 : Int32)) C dX3_sweep_13 (by decide) ?_
  refine q_istore_n (pc := 14) (lv' := [(1, .int (0 : Int32)), (0, .ref (gad G 31))]) C dX3_sweep_14 rfl (by decide) rfl ?_
  refine q_lv (lv' := [(0, .ref (gad G 31)), (1, .int (0 : Int32))]) [1, 0] rfl ?_
  obtain ⟨S1, h2, hm⟩ := o1_some hm
  refine w_Mar_sweep_L15 hi C 200 _ _ _ h2 ?_
  refine q_aload_n (pc := 51) C dX3_sweep_51 rfl 0 rfl ?_
  refine q_iconst (pc := 52) (v := (0 : Int32)) C dX3_sweep_52 (by decide) ?_
  refine q_put (pc := 53) (T := TX3) (ty := .boolean) C tyX3 tyX3_ok nmX3 (by decide) (ce_31 _ _ _) (pe_31_10 _ _ _ _) (ci := 3) rfl inlX3 (j := 10) (by decide) (Nat.le_of_ble_eq_true rfl) tw_159 (Or.inl rfl) rfl (by decide +kernel) (by decide) (by decide) dX3_sweep_53 ?_
  refine q_aload_n (pc := 56) C dX3_sweep_56 rfl 0 rfl ?_
  refine q_dup (pc := 57) C dX3_sweep_57 rfl ?_
  refine q_get (pc := 58) (T := TX3) (v := .int (S1 31 5)) C (by decide) (ce_31 _ _ _) (ci := 3) rfl inlX3 (j := 5) (by decide) rfl tw_456 (Or.inr tw_457) dX3_sweep_58 ?_
  refine q_iconst (pc := 61) (v := (1 : Int32)) C dX3_sweep_61 (by decide) ?_
  refine q_iadd (pc := 62) C dX3_sweep_62 ?_
  refine q_put (pc := 63) (T := TX3) (ty := .int) C tyX3 tyX3_ok nmX3 (by decide) (ce_31 _ _ _) (pe_31_5 _ _ _ _) (ci := 3) rfl inlX3 (j := 5) (by decide) (Nat.le_of_ble_eq_true rfl) tw_456 (Or.inr tw_457) rfl (by decide +kernel) rfl rfl dX3_sweep_63 ?_
  cases hm
  exact q_vret (pc := 66) C dX3_sweep_66
set_option maxRecDepth 100000 in
theorem w_Mar_step_L49 {G : Gx} (hi : qinj (gad G)) {X : Cx} (C : QC G X cX3_step 3 RX3 3 64 none) {Q : State → Prop} : ∀ (n : Nat) (S : St) (v1 : Int32) (v2 : Int32) (zS : St), m_Mar_step_L49 n S v1 v2 = some zS → QW G X 3 Q 80 [(0, .ref (gad G 31)), (1, .int v1)] [] zS → QW G X 3 Q 49 [(0, .ref (gad G 31)), (1, .int v1), (2, .int v2)] [] S := by
  intro n
  induction n with
  | zero =>
    intro S v1 v2 zS hm kk
    rw [m_Mar_step_L49] at hm
    cases hm
  | succ n ih =>
    intro S v1 v2 zS hm kk
    rw [m_Mar_step_L49] at hm
    refine q_iload_n (pc := 49) C dX3_step_49 rfl 2 rfl ?_
    refine q_aload_n (pc := 50) C dX3_step_50 rfl 0 rfl ?_
    refine q_get (pc := 51) (T := TX3) (v := .ref (gad G 1)) C (by decide) (ce_31 _ _ _) (ci := 3) rfl inlX3 (j := 1) (by decide) rfl tw_421 (Or.inr tw_422) dX3_step_51 ?_
    refine q_iload_n (pc := 54) C dX3_step_54 rfl 1 rfl ?_
    obtain ⟨r1, h1, hm⟩ := o1_some hm
    refine q_callV (pc := 55) (k := 1) (As := [.int v1]) (rest := [.int v2]) (T := TX2) C (c_Gr_fieldsOf hi h1) (by decide) (ce_1 _ _ _) (ci := 2) rfl tw_465 tw_279 tw_280 tw_13 tw_281 (nA := 1) (by decide +kernel) rfl (by decide) (Nat.le_of_ble_eq_true rfl) rfl dX3_step_55 ?_
    refine q_icmp_ge (pc := 58) (tgt := 80) C dX3_step_58 (by decide) (fun c1 => ?_) (fun c1 => ?_)
    · replace hm := hm_t c1 hm
      cases hm
      refine q_lv (lv' := [(0, .ref (gad G 31)), (1, .int v1)]) [0, 1] rfl ?_
      exact kk
    · replace hm := hm_f c1 hm
      refine q_aload_n (pc := 61) C dX3_step_61 rfl 0 rfl ?_
      refine q_aload_n (pc := 62) C dX3_step_62 rfl 0 rfl ?_
      refine q_get (pc := 63) (T := TX3) (v := .ref (gad G 1)) C (by decide) (ce_31 _ _ _) (ci := 3) rfl inlX3 (j := 1) (by decide) rfl tw_421 (Or.inr tw_422) dX3_step_63 ?_
      refine q_iload_n (pc := 66) C dX3_step_66 rfl 1 rfl ?_
      refine q_iload_n (pc := 67) C dX3_step_67 rfl 2 rfl ?_
      obtain ⟨r2, h2, hm⟩ := o1_some hm
      refine q_callV (pc := 68) (k := 1) (As := [.int v1, .int v2]) (rest := [.ref (gad G 31)]) (T := TX2) C (c_Gr_nameOf hi h2) (by decide) (ce_1 _ _ _) (ci := 2) rfl tw_466 tw_283 tw_284 tw_13 tw_285 (nA := 2) (by decide +kernel) rfl (by decide) (Nat.le_of_ble_eq_true rfl) rfl dX3_step_68 ?_
      obtain ⟨S1, h3, hm⟩ := o1_some hm
      refine q_callV (pc := 71) (k := 31) (As := [.int r2]) (rest := []) (T := TX3) C (c_Mar_becomeGrey hi h3) (by decide) (ce_31 _ _ _) (ci := 3) rfl tw_427 tw_428 tw_429 tw_19 tw_430 (nA := 1) (by decide +kernel) rfl (by decide) (Nat.le_of_ble_eq_true rfl) rfl dX3_step_71 ?_
      refine q_iinc (pc := 74) (k := 2) (v := (v2 + (1 : Int32))) (lv' := [(2, .int (v2 + (1 : Int32))), (0, .ref (gad G 31)), (1, .int v1)]) C dX3_step_74 rfl rfl (by decide) rfl ?_
      refine q_goto (pc := 77) (tgt := 49) C dX3_step_77 (by decide) ?_
      refine q_lv (lv' := [(0, .ref (gad G 31)), (1, .int v1), (2, .int (v2 + (1 : Int32)))]) [1, 2, 0] rfl ?_
      exact ih _ _ _ _ hm kk
set_option maxRecDepth 100000 in
theorem c_Mar_step {G : Gx} (hi : qinj (gad G)) {S : St}  {zS : St} (hm : m_Mar_step S  = some zS) : QMet G yX3_step cX3_step 3 none 3 64 [.ref (gad G 31)] S none zS := by
  refine q_entry (by decide +kernel) rfl hi (Nat.le_of_ble_eq_true rfl) ?_
  intro X C
  refine q_lv (lv' := [(0, .ref (gad G 31))]) [0] rfl ?_
  unfold m_Mar_step at hm
  refine q_aload_n (pc := 0) C dX3_step_0 rfl 0 rfl ?_
  refine q_get (pc := 1) (T := TX3) (v := .int (S 31 14)) C (by decide) (ce_31 _ _ _) (ci := 3) rfl inlX3 (j := 14) (by decide) rfl tw_160 (Or.inl rfl) dX3_step_1 ?_
  refine q_aload_n (pc := 4) C dX3_step_4 rfl 0 rfl ?_
  refine q_get (pc := 5) (T := TX3) (v := .ref (gad G 36)) C (by decide) (ce_31 _ _ _) (ci := 3) rfl inlX3 (j := 12) (by decide) rfl tw_74 (Or.inl rfl) dX3_step_5 ?_
  refine q_get (pc := 8) (T := TX5) (v := .int (S 36 2)) C (by decide) (ce_36 _ _ _) (ci := 5) rfl inlX5 (j := 2) (by decide) rfl tw_448 (Or.inl rfl) dX3_step_8 ?_
  refine q_icmp_lt (pc := 11) (tgt := 19) C dX3_step_11 (by decide) (fun c1 => ?_) (fun c1 => ?_)
  · replace hm := hm_t c1 hm
    refine q_aload_n (pc := 19) C dX3_step_19 rfl 0 rfl ?_
    refine q_get (pc := 20) (T := TX3) (v := .ref (gad G 36)) C (by decide) (ce_31 _ _ _) (ci := 3) rfl inlX3 (j := 12) (by decide) rfl tw_74 (Or.inl rfl) dX3_step_20 ?_
    refine q_aload_n (pc := 23) C dX3_step_23 rfl 0 rfl ?_
    refine q_get (pc := 24) (T := TX3) (v := .int (S 31 14)) C (by decide) (ce_31 _ _ _) (ci := 3) rfl inlX3 (j := 14) (by decide) rfl tw_160 (Or.inl rfl) dX3_step_24 ?_
    obtain ⟨r1, h1, hm⟩ := o1_some hm
    refine q_callV (pc := 27) (k := 36) (As := [.int (S 31 14)]) (rest := []) (T := TX5) C (c_Row_get_36 hi h1) (by decide) (ce_36 _ _ _) (ci := 5) rfl tw_464 tw_271 tw_272 tw_43 tw_273 (nA := 1) (by decide +kernel) rfl (by decide) (Nat.le_of_ble_eq_true rfl) rfl dX3_step_27 ?_
    refine q_istore_n (pc := 30) (lv' := [(1, .int r1), (0, .ref (gad G 31))]) C dX3_step_30 rfl (by decide) rfl ?_
    refine q_aload_n (pc := 31) C dX3_step_31 rfl 1 rfl ?_
    refine q_dup (pc := 32) C dX3_step_32 rfl ?_
    refine q_get (pc := 33) (T := TX3) (v := .int (S 31 14)) C (by decide) (ce_31 _ _ _) (ci := 3) rfl inlX3 (j := 14) (by decide) rfl tw_160 (Or.inl rfl) dX3_step_33 ?_
    refine q_iconst (pc := 36) (v := (1 : Int32)) C dX3_step_36 (by decide) ?_
    refine q_iadd (pc := 37) C dX3_step_37 ?_
    refine q_put (pc := 38) (T := TX3) (ty := .int) C tyX3 tyX3_ok nmX3 (by decide) (ce_31 _ _ _) (pe_31_14 _ _ _ _) (ci := 3) rfl inlX3 (j := 14) (by decide) (Nat.le_of_ble_eq_true rfl) tw_160 (Or.inl rfl) rfl (by decide +kernel) rfl rfl dX3_step_38 ?_
    refine q_aload_n (pc := 41) C dX3_step_41 rfl 1 rfl ?_
    refine q_iload_n (pc := 42) C dX3_step_42 rfl 0 rfl ?_
    refine q_iconst (pc := 43) (v := (2 : Int32)) C dX3_step_43 (by decide) ?_
    obtain ⟨S1, h2, hm⟩ := o1_some hm
    refine q_callV (pc := 44) (k := 31) (As := [.int r1, .int (2 : Int32)]) (rest := []) (T := TX3) C (c_Mar_paint hi h2) (by decide) (ce_31 _ _ _) (ci := 3) rfl tw_439 tw_440 tw_441 tw_19 tw_442 (nA := 2) (by decide +kernel) rfl (by decide) (Nat.le_of_ble_eq_true rfl) rfl dX3_step_44 ?_
    refine q_iconst (pc := 47) (v := (0 : Int32)) C dX3_step_47 (by decide) ?_
    refine q_istore_n (pc := 48) (lv' := [(2, .int (0 : Int32)), (1, .int r1), (0, .ref (gad G 31))]) C dX3_step_48 rfl (by decide) rfl ?_
    refine q_lv (lv' := [(0, .ref (gad G 31)), (1, .int r1), (2, .int (0 : Int32))]) [2, 1, 0] rfl ?_
    obtain ⟨S2, h3, hm⟩ := o1_some hm
    refine w_Mar_step_L49 hi C 200 _ _ _ _ h3 ?_
    refine q_aload_n (pc := 80) C dX3_step_80 rfl 0 rfl ?_
    refine q_dup (pc := 81) C dX3_step_81 rfl ?_
    refine q_get (pc := 82) (T := TX3) (v := .int (S2 31 3)) C (by decide) (ce_31 _ _ _) (ci := 3) rfl inlX3 (j := 3) (by decide) rfl tw_449 (Or.inr tw_450) dX3_step_82 ?_
    refine q_aload_n (pc := 85) C dX3_step_85 rfl 0 rfl ?_
    refine q_get (pc := 86) (T := TX3) (v := .ref (gad G 1)) C (by decide) (ce_31 _ _ _) (ci := 3) rfl inlX3 (j := 1) (by decide) rfl tw_421 (Or.inr tw_422) dX3_step_86 ?_
    refine q_iload_n (pc := 89) C dX3_step_89 rfl 1 rfl ?_
    obtain ⟨r2, h4, hm⟩ := o1_some hm
    refine q_callV (pc := 90) (k := 1) (As := [.int r1]) (rest := [.int (S2 31 3), .ref (gad G 31)]) (T := TX2) C (c_Gr_wordsOf hi h4) (by decide) (ce_1 _ _ _) (ci := 2) rfl tw_467 tw_229 tw_230 tw_13 tw_231 (nA := 1) (by decide +kernel) rfl (by decide) (Nat.le_of_ble_eq_true rfl) rfl dX3_step_90 ?_
    refine q_iadd (pc := 93) C dX3_step_93 ?_
    refine q_put (pc := 94) (T := TX3) (ty := .int) C tyX3 tyX3_ok nmX3 (by decide) (ce_31 _ _ _) (pe_31_3 _ _ _ _) (ci := 3) rfl inlX3 (j := 3) (by decide) (Nat.le_of_ble_eq_true rfl) tw_449 (Or.inr tw_450) rfl (by decide +kernel) rfl rfl dX3_step_94 ?_
    cases hm
    exact q_vret (pc := 97) C dX3_step_97
  · replace hm := hm_f c1 hm
    refine q_aload_n (pc := 14) C dX3_step_14 rfl 0 rfl ?_
    obtain ⟨S3, h5, hm⟩ := o1_some hm
    refine q_callV (pc := 15) (k := 31) (As := []) (rest := []) (T := TX3) C (c_Mar_sweep hi h5) (by decide) (ce_31 _ _ _) (ci := 3) rfl tw_451 tw_452 tw_453 tw_19 tw_454 (nA := 0) (by decide +kernel) rfl (by decide) (Nat.le_of_ble_eq_true rfl) rfl dX3_step_15 ?_
    cases hm
    exact q_vret (pc := 18) C dX3_step_18
set_option maxRecDepth 100000 in
theorem w_St_wordsHad_31_L4 {G : Gx} (hi : qinj (gad G)) {X : Cx} (C : QC G X cX7_wordsHad 3 RX7 1 21 (some .int)) {Q : State → Prop} : ∀ (n : Nat) (S : St) (v1 : Int32) (v2 : Int32) (x1 : Int32), m_St_wordsHad_L4 31 1 n S v1 v2 = some x1 → QW G X 3 Q 44 [(1, .int x1)] [] S → QW G X 3 Q 4 [(0, .ref (gad G 31)), (1, .int v1), (2, .int v2)] [] S := by
  intro n
  induction n with
  | zero =>
    intro S v1 v2 x1 hm kk
    rw [m_St_wordsHad_L4] at hm
    cases hm
  | succ n ih =>
    intro S v1 v2 x1 hm kk
    rw [m_St_wordsHad_L4] at hm
    refine q_iload_n (pc := 4) C dX7_wordsHad_4 rfl 2 rfl ?_
    refine q_aload_n (pc := 5) C dX7_wordsHad_5 rfl 0 rfl ?_
    refine q_get (pc := 6) (T := TX3) (v := .ref (gad G 1)) C (by decide) (ce_31 _ _ _) (ci := 3) rfl inlX3 (j := 1) (by decide) rfl tw_67 (Or.inl rfl) dX7_wordsHad_6 ?_
    refine q_get (pc := 9) (T := TX2) (v := .int (S 1 6)) C (by decide) (ce_1 _ _ _) (ci := 2) rfl inlX2 (j := 6) (by decide) rfl tw_252 (Or.inl rfl) dX7_wordsHad_9 ?_
    refine q_icmp_ge (pc := 12) (tgt := 44) C dX7_wordsHad_12 (by decide) (fun c1 => ?_) (fun c1 => ?_)
    · replace hm := hm_t c1 hm
      cases hm
      refine q_lv (lv' := [(1, .int v1)]) [1] rfl ?_
      exact kk
    · replace hm := hm_f c1 hm
      refine q_iload_n (pc := 15) C dX7_wordsHad_15 rfl 1 rfl ?_
      refine q_aload_n (pc := 16) C dX7_wordsHad_16 rfl 0 rfl ?_
      refine q_iload_n (pc := 17) C dX7_wordsHad_17 rfl 2 rfl ?_
      obtain ⟨r1, h1, hm⟩ := o1_some hm
      refine q_callU (pc := 18) (k := 31) (As := [.int v2]) (rest := [.int v1]) (T := TX3) (owner := "Tessera$Store") (x := ⟨"Tessera$Store", "has", "(I)Z"⟩) C (c_St_has_31 hi h1) (by decide) (ce_31 _ _ _) (ci := 3) rfl (Or.inl rfl) tw_253 tw_254 tw_256 tw_259 tw_62 tw_257 (nA := 1) (by decide +kernel) rfl (by decide) (Nat.le_of_ble_eq_true rfl) rfl dX7_wordsHad_18 ?_
      refine q_if_eq (pc := 21) (tgt := 35) C dX7_wordsHad_21 (by decide) (fun c2 => ?_) (fun c2 => ?_)
      · replace hm := hm_t c2 hm
        refine q_iconst (pc := 35) (v := (0 : Int32)) C dX7_wordsHad_35 (by decide) ?_
        refine q_iadd (pc := 36) C dX7_wordsHad_36 ?_
        refine q_istore_n (pc := 37) (lv' := [(1, .int (v1 + (0 : Int32))), (0, .ref (gad G 31)), (2, .int v2)]) C dX7_wordsHad_37 rfl (by decide) rfl ?_
        refine q_iinc (pc := 38) (k := 2) (v := (v2 + (1 : Int32))) (lv' := [(2, .int (v2 + (1 : Int32))), (1, .int (v1 + (0 : Int32))), (0, .ref (gad G 31))]) C dX7_wordsHad_38 rfl rfl (by decide) rfl ?_
        refine q_goto (pc := 41) (tgt := 4) C dX7_wordsHad_41 (by decide) ?_
        refine q_lv (lv' := [(0, .ref (gad G 31)), (1, .int (v1 + (0 : Int32))), (2, .int (v2 + (1 : Int32)))]) [2, 1, 0] rfl ?_
        exact ih _ _ _ _ hm kk
      · replace hm := hm_f c2 hm
        refine q_aload_n (pc := 24) C dX7_wordsHad_24 rfl 0 rfl ?_
        refine q_get (pc := 25) (T := TX3) (v := .ref (gad G 1)) C (by decide) (ce_31 _ _ _) (ci := 3) rfl inlX3 (j := 1) (by decide) rfl tw_67 (Or.inl rfl) dX7_wordsHad_25 ?_
        refine q_iload_n (pc := 28) C dX7_wordsHad_28 rfl 2 rfl ?_
        obtain ⟨r2, h2, hm⟩ := o1_some hm
        refine q_callV (pc := 29) (k := 1) (As := [.int v2]) (rest := [.int v1]) (T := TX2) C (c_Gr_wordsOf hi h2) (by decide) (ce_1 _ _ _) (ci := 2) rfl tw_416 tw_229 tw_230 tw_13 tw_231 (nA := 1) (by decide +kernel) rfl (by decide) (Nat.le_of_ble_eq_true rfl) rfl dX7_wordsHad_29 ?_
        refine q_goto (pc := 32) (tgt := 36) C dX7_wordsHad_32 (by decide) ?_
        refine q_iadd (pc := 36) C dX7_wordsHad_36 ?_
        refine q_istore_n (pc := 37) (lv' := [(1, .int (v1 + r2)), (0, .ref (gad G 31)), (2, .int v2)]) C dX7_wordsHad_37 rfl (by decide) rfl ?_
        refine q_iinc (pc := 38) (k := 2) (v := (v2 + (1 : Int32))) (lv' := [(2, .int (v2 + (1 : Int32))), (1, .int (v1 + r2)), (0, .ref (gad G 31))]) C dX7_wordsHad_38 rfl rfl (by decide) rfl ?_
        refine q_goto (pc := 41) (tgt := 4) C dX7_wordsHad_41 (by decide) ?_
        refine q_lv (lv' := [(0, .ref (gad G 31)), (1, .int (v1 + r2)), (2, .int (v2 + (1 : Int32)))]) [2, 1, 0] rfl ?_
        exact ih _ _ _ _ hm kk
set_option maxRecDepth 100000 in
theorem c_St_wordsHad_31 {G : Gx} (hi : qinj (gad G)) {S : St}  {zr : Int32} (hm : m_St_wordsHad 31 1 S  = some zr) : QMet G yX7_wordsHad cX7_wordsHad 3 (some .int) 1 21 [.ref (gad G 31)] S (some (.int zr)) S := by
  refine q_entry (by decide +kernel) rfl hi (Nat.le_of_ble_eq_true rfl) ?_
  intro X C
  refine q_lv (lv' := [(0, .ref (gad G 31))]) [0] rfl ?_
  unfold m_St_wordsHad at hm
  refine q_iconst (pc := 0) (v := (0 : Int32)) C dX7_wordsHad_0 (by decide) ?_
  refine q_istore_n (pc := 1) (lv' := [(1, .int (0 : Int32)), (0, .ref (gad G 31))]) C dX7_wordsHad_1 rfl (by decide) rfl ?_
  refine q_iconst (pc := 2) (v := (0 : Int32)) C dX7_wordsHad_2 (by decide) ?_
  refine q_istore_n (pc := 3) (lv' := [(2, .int (0 : Int32)), (1, .int (0 : Int32)), (0, .ref (gad G 31))]) C dX7_wordsHad_3 rfl (by decide) rfl ?_
  refine q_lv (lv' := [(0, .ref (gad G 31)), (1, .int (0 : Int32)), (2, .int (0 : Int32))]) [2, 1, 0] rfl ?_
  obtain ⟨y1, h1, hm⟩ := o1_some hm
  refine w_St_wordsHad_31_L4 hi C 200 _ _ _ _ h1 ?_
  refine q_iload_n (pc := 44) C dX7_wordsHad_44 rfl 0 rfl ?_
  cases hm
  exact q_iret (pc := 45) C dX7_wordsHad_45
set_option maxRecDepth 100000 in
theorem w_Mar_beginToMark_L19 {G : Gx} (hi : qinj (gad G)) {X : Cx} (C : QC G X cX3_beginToMark 2 RX3 3 64 none) {Q : State → Prop} : ∀ (n : Nat) (S : St) (v1 : Int32) (zS : St), m_Mar_beginToMark_L19 n S v1 = some zS → QW G X 2 Q 43 [] [] zS → QW G X 2 Q 19 [(0, .ref (gad G 31)), (1, .int v1)] [] S := by
  intro n
  induction n with
  | zero =>
    intro S v1 zS hm kk
    rw [m_Mar_beginToMark_L19] at hm
    cases hm
  | succ n ih =>
    intro S v1 zS hm kk
    rw [m_Mar_beginToMark_L19] at hm
    refine q_iload_n (pc := 19) C dX3_beginToMark_19 rfl 1 rfl ?_
    refine q_bipush (pc := 20) (v := (6 : Int32)) C dX3_beginToMark_20 (by decide) ?_
    refine q_icmp_ge (pc := 22) (tgt := 43) C dX3_beginToMark_22 (by decide) (fun c1 => ?_) (fun c1 => ?_)
    · replace hm := hm_t c1 hm
      cases hm
      refine q_lv (lv' := []) [] rfl ?_
      exact kk
    · replace hm := hm_f c1 hm
      refine q_aload_n (pc := 25) C dX3_beginToMark_25 rfl 0 rfl ?_
      refine q_aload_n (pc := 26) C dX3_beginToMark_26 rfl 0 rfl ?_
      refine q_get (pc := 27) (T := TX3) (v := .ref (gad G 1)) C (by decide) (ce_31 _ _ _) (ci := 3) rfl inlX3 (j := 1) (by decide) rfl tw_421 (Or.inr tw_422) dX3_beginToMark_27 ?_
      refine q_iload_n (pc := 30) C dX3_beginToMark_30 rfl 1 rfl ?_
      obtain ⟨r1, h1, hm⟩ := o1_some hm
      refine q_callV (pc := 31) (k := 1) (As := [.int v1]) (rest := [.ref (gad G 31)]) (T := TX2) C (c_Gr_rootAt hi h1) (by decide) (ce_1 _ _ _) (ci := 2) rfl tw_423 tw_424 tw_425 tw_13 tw_426 (nA := 1) (by decide +kernel) rfl (by decide) (Nat.le_of_ble_eq_true rfl) rfl dX3_beginToMark_31 ?_
      obtain ⟨S1, h2, hm⟩ := o1_some hm
      refine q_callV (pc := 34) (k := 31) (As := [.int r1]) (rest := []) (T := TX3) C (c_Mar_becomeGrey hi h2) (by decide) (ce_31 _ _ _) (ci := 3) rfl tw_427 tw_428 tw_429 tw_19 tw_430 (nA := 1) (by decide +kernel) rfl (by decide) (Nat.le_of_ble_eq_true rfl) rfl dX3_beginToMark_34 ?_
      refine q_iinc (pc := 37) (k := 1) (v := (v1 + (1 : Int32))) (lv' := [(1, .int (v1 + (1 : Int32))), (0, .ref (gad G 31))]) C dX3_beginToMark_37 rfl rfl (by decide) rfl ?_
      refine q_goto (pc := 40) (tgt := 19) C dX3_beginToMark_40 (by decide) ?_
      refine q_lv (lv' := [(0, .ref (gad G 31)), (1, .int (v1 + (1 : Int32)))]) [1, 0] rfl ?_
      exact ih _ _ _ hm kk
set_option maxRecDepth 100000 in
theorem c_Mar_beginToMark {G : Gx} (hi : qinj (gad G)) {S : St}  {zS : St} (hm : m_Mar_beginToMark S  = some zS) : QMet G yX3_beginToMark cX3_beginToMark 2 none 3 64 [.ref (gad G 31)] S none zS := by
  refine q_entry (by decide +kernel) rfl hi (Nat.le_of_ble_eq_true rfl) ?_
  intro X C
  refine q_lv (lv' := [(0, .ref (gad G 31))]) [0] rfl ?_
  unfold m_Mar_beginToMark at hm
  refine q_aload_n (pc := 0) C dX3_beginToMark_0 rfl 0 rfl ?_
  refine q_iconst (pc := 1) (v := (1 : Int32)) C dX3_beginToMark_1 (by decide) ?_
  refine q_put (pc := 2) (T := TX3) (ty := .boolean) C tyX3 tyX3_ok nmX3 (by decide) (ce_31 _ _ _) (pe_31_10 _ _ _ _) (ci := 3) rfl inlX3 (j := 10) (by decide) (Nat.le_of_ble_eq_true rfl) tw_159 (Or.inl rfl) rfl (by decide +kernel) (by decide) (by decide) dX3_beginToMark_2 ?_
  refine q_aload_n (pc := 5) C dX3_beginToMark_5 rfl 0 rfl ?_
  refine q_get (pc := 6) (T := TX3) (v := .ref (gad G 36)) C (by decide) (ce_31 _ _ _) (ci := 3) rfl inlX3 (j := 12) (by decide) rfl tw_74 (Or.inl rfl) dX3_beginToMark_6 ?_
  obtain ⟨S1, h1, hm⟩ := o1_some hm
  refine q_callV (pc := 9) (k := 36) (As := []) (rest := []) (T := TX5) C (c_Row_empty_36 hi h1) (by decide) (ce_36 _ _ _) (ci := 5) rfl tw_161 tw_124 tw_125 tw_43 tw_126 (nA := 0) (by decide +kernel) rfl (by decide) (Nat.le_of_ble_eq_true rfl) rfl dX3_beginToMark_9 ?_
  refine q_aload_n (pc := 12) C dX3_beginToMark_12 rfl 0 rfl ?_
  refine q_iconst (pc := 13) (v := (0 : Int32)) C dX3_beginToMark_13 (by decide) ?_
  refine q_put (pc := 14) (T := TX3) (ty := .int) C tyX3 tyX3_ok nmX3 (by decide) (ce_31 _ _ _) (pe_31_14 _ _ _ _) (ci := 3) rfl inlX3 (j := 14) (by decide) (Nat.le_of_ble_eq_true rfl) tw_160 (Or.inl rfl) rfl (by decide +kernel) rfl rfl dX3_beginToMark_14 ?_
  refine q_iconst (pc := 17) (v := (0 : Int32)) C dX3_beginToMark_17 (by decide) ?_
  refine q_istore_n (pc := 18) (lv' := [(1, .int (0 : Int32)), (0, .ref (gad G 31))]) C dX3_beginToMark_18 rfl (by decide) rfl ?_
  refine q_lv (lv' := [(0, .ref (gad G 31)), (1, .int (0 : Int32))]) [1, 0] rfl ?_
  obtain ⟨S2, h2, hm⟩ := o1_some hm
  refine w_Mar_beginToMark_L19 hi C 200 _ _ _ h2 ?_
  cases hm
  exact q_vret (pc := 43) C dX3_beginToMark_43
set_option maxRecDepth 100000 in
theorem w_Mar_workAheadOfPlacing_L32 {G : Gx} (hi : qinj (gad G)) {X : Cx} (C : QC G X cX3_workAheadOfPlacing 2 RX3 4 86 none) {Q : State → Prop} : ∀ (n : Nat) (S : St) (v1 : Int32) (zS : St), m_Mar_workAheadOfPlacing_L32 n S v1 = some zS → QW G X 2 Q 54 [] [] zS → QW G X 2 Q 32 [(0, .ref (gad G 31)), (1, .int v1)] [] S := by
  intro n
  induction n with
  | zero =>
    intro S v1 zS hm kk
    rw [m_Mar_workAheadOfPlacing_L32] at hm
    cases hm
  | succ n ih =>
    intro S v1 zS hm kk
    rw [m_Mar_workAheadOfPlacing_L32] at hm
    refine q_aload_n (pc := 32) C dX3_workAheadOfPlacing_32 rfl 0 rfl ?_
    refine q_get (pc := 33) (T := TX3) (v := .int (S 31 10)) C (by decide) (ce_31 _ _ _) (ci := 3) rfl inlX3 (j := 10) (by decide) rfl tw_159 (Or.inl rfl) dX3_workAheadOfPlacing_33 ?_
    refine q_if_eq (pc := 36) (tgt := 54) C dX3_workAheadOfPlacing_36 (by decide) (fun c1 => ?_) (fun c1 => ?_)
    · replace hm := hm_t c1 hm
      cases hm
      refine q_lv (lv' := []) [] rfl ?_
      exact kk
    · replace hm := hm_f c1 hm
      refine q_iload_n (pc := 39) C dX3_workAheadOfPlacing_39 rfl 1 rfl ?_
      refine q_iconst (pc := 40) (v := (2 : Int32)) C dX3_workAheadOfPlacing_40 (by decide) ?_
      refine q_icmp_ge (pc := 41) (tgt := 54) C dX3_workAheadOfPlacing_41 (by decide) (fun c2 => ?_) (fun c2 => ?_)
      · replace hm := hm_t c2 hm
        cases hm
        refine q_lv (lv' := []) [] rfl ?_
        exact kk
      · replace hm := hm_f c2 hm
        refine q_aload_n (pc := 44) C dX3_workAheadOfPlacing_44 rfl 0 rfl ?_
        obtain ⟨S1, h1, hm⟩ := o1_some hm
        refine q_callV (pc := 45) (k := 31) (As := []) (rest := []) (T := TX3) C (c_Mar_step hi h1) (by decide) (ce_31 _ _ _) (ci := 3) rfl tw_444 tw_445 tw_446 tw_19 tw_447 (nA := 0) (by decide +kernel) rfl (by decide) (Nat.le_of_ble_eq_true rfl) rfl dX3_workAheadOfPlacing_45 ?_
        refine q_iinc (pc := 48) (k := 1) (v := (v1 + (1 : Int32))) (lv' := [(1, .int (v1 + (1 : Int32))), (0, .ref (gad G 31))]) C dX3_workAheadOfPlacing_48 rfl rfl (by decide) rfl ?_
        refine q_goto (pc := 51) (tgt := 32) C dX3_workAheadOfPlacing_51 (by decide) ?_
        refine q_lv (lv' := [(0, .ref (gad G 31)), (1, .int (v1 + (1 : Int32)))]) [1, 0] rfl ?_
        exact ih _ _ _ hm kk
set_option maxRecDepth 100000 in
theorem c_Mar_workAheadOfPlacing {G : Gx} (hi : qinj (gad G)) {S : St}  {zS : St} (hm : m_Mar_workAheadOfPlacing S  = some zS) : QMet G yX3_workAheadOfPlacing cX3_workAheadOfPlacing 2 none 4 86 [.ref (gad G 31)] S none zS := by
  refine q_entry (by decide +kernel) rfl hi (Nat.le_of_ble_eq_true rfl) ?_
  intro X C
  refine q_lv (lv' := [(0, .ref (gad G 31))]) [0] rfl ?_
  unfold m_Mar_workAheadOfPlacing at hm
  refine q_aload_n (pc := 0) C dX3_workAheadOfPlacing_0 rfl 0 rfl ?_
  refine q_get (pc := 1) (T := TX3) (v := .int (S 31 10)) C (by decide) (ce_31 _ _ _) (ci := 3) rfl inlX3 (j := 10) (by decide) rfl tw_159 (Or.inl rfl) dX3_workAheadOfPlacing_1 ?_
  refine q_if_ne (pc := 4) (tgt := 30) C dX3_workAheadOfPlacing_4 (by decide) (fun c1 => ?_) (fun c1 => ?_)
  · replace hm := hm_f c1 hm
    refine q_iconst (pc := 30) (v := (0 : Int32)) C dX3_workAheadOfPlacing_30 (by decide) ?_
    refine q_istore_n (pc := 31) (lv' := [(1, .int (0 : Int32)), (0, .ref (gad G 31))]) C dX3_workAheadOfPlacing_31 rfl (by decide) rfl ?_
    refine q_lv (lv' := [(0, .ref (gad G 31)), (1, .int (0 : Int32))]) [1, 0] rfl ?_
    obtain ⟨S1, h1, hm⟩ := o1_some hm
    refine w_Mar_workAheadOfPlacing_L32 hi C 200 _ _ _ h1 ?_
    cases hm
    exact q_vret (pc := 54) C dX3_workAheadOfPlacing_54
  · replace hm := hm_t c1 hm
    refine q_aload_n (pc := 7) C dX3_workAheadOfPlacing_7 rfl 0 rfl ?_
    refine q_get (pc := 8) (T := TX3) (v := .int (S 31 2)) C (by decide) (ce_31 _ _ _) (ci := 3) rfl inlX3 (j := 2) (by decide) rfl tw_409 (Or.inr tw_410) dX3_workAheadOfPlacing_8 ?_
    refine q_aload_n (pc := 11) C dX3_workAheadOfPlacing_11 rfl 0 rfl ?_
    obtain ⟨r1, h2, hm⟩ := o1_some hm
    refine q_callU (pc := 12) (k := 31) (As := []) (rest := [.int (S 31 2)]) (T := TX3) (owner := "Tessera$Store") (x := ⟨"Tessera$Marking", "wordsHad", "()I"⟩) C (c_St_wordsHad_31 hi h2) (by decide) (ce_31 _ _ _) (ci := 3) rfl (Or.inl rfl) tw_411 tw_412 tw_414 tw_413 tw_62 tw_415 (nA := 0) (by decide +kernel) rfl (by decide) (Nat.le_of_ble_eq_true rfl) rfl dX3_workAheadOfPlacing_12 ?_
    refine q_isub (pc := 15) C dX3_workAheadOfPlacing_15 ?_
    refine q_aload_n (pc := 16) C dX3_workAheadOfPlacing_16 rfl 0 rfl ?_
    refine q_get (pc := 17) (T := TX3) (v := .int (S 31 2)) C (by decide) (ce_31 _ _ _) (ci := 3) rfl inlX3 (j := 2) (by decide) rfl tw_409 (Or.inr tw_410) dX3_workAheadOfPlacing_17 ?_
    refine q_iconst (pc := 20) (v := (2 : Int32)) C dX3_workAheadOfPlacing_20 (by decide) ?_
    refine q_idiv (pc := 21) C dX3_workAheadOfPlacing_21 (by decide) ?_
    refine q_icmp_ge (pc := 22) (tgt := 29) C dX3_workAheadOfPlacing_22 (by decide) (fun c2 => ?_) (fun c2 => ?_)
    · replace hm := hm_t c2 hm
      cases hm
      exact q_vret (pc := 29) C dX3_workAheadOfPlacing_29
    · replace hm := hm_f c2 hm
      refine q_aload_n (pc := 25) C dX3_workAheadOfPlacing_25 rfl 0 rfl ?_
      obtain ⟨S2, h3, hm⟩ := o1_some hm
      refine q_callV (pc := 26) (k := 31) (As := []) (rest := []) (T := TX3) C (c_Mar_beginToMark hi h3) (by decide) (ce_31 _ _ _) (ci := 3) rfl tw_417 tw_418 tw_419 tw_19 tw_420 (nA := 0) (by decide +kernel) rfl (by decide) (Nat.le_of_ble_eq_true rfl) rfl dX3_workAheadOfPlacing_26 ?_
      cases hm
      exact q_vret (pc := 29) C dX3_workAheadOfPlacing_29
set_option maxRecDepth 100000 in
theorem c_St_placeOf_31 {G : Gx} (hi : qinj (gad G)) {S : St} {a1 : Int32} {zr : Int32} (hm : m_St_placeOf 31 1 S a1 = some zr) : QMet G yX7_placeOf cX7_placeOf 2 (some .int) 1 21 [.ref (gad G 31), .int a1] S (some (.int zr)) S := by
  refine q_entry (by decide +kernel) rfl hi (Nat.le_of_ble_eq_true rfl) ?_
  intro X C
  refine q_lv (lv' := [(0, .ref (gad G 31)), (1, .int a1)]) [0, 1] rfl ?_
  unfold m_St_placeOf at hm
  refine q_aload_n (pc := 0) C dX7_placeOf_0 rfl 0 rfl ?_
  refine q_iload_n (pc := 1) C dX7_placeOf_1 rfl 1 rfl ?_
  obtain ⟨r1, h1, hm⟩ := o1_some hm
  refine q_callU (pc := 2) (k := 31) (As := [.int a1]) (rest := []) (T := TX3) (owner := "Tessera$Store") (x := ⟨"Tessera$Store", "has", "(I)Z"⟩) C (c_St_has_31 hi h1) (by decide) (ce_31 _ _ _) (ci := 3) rfl (Or.inl rfl) tw_253 tw_254 tw_256 tw_259 tw_62 tw_257 (nA := 1) (by decide +kernel) rfl (by decide) (Nat.le_of_ble_eq_true rfl) rfl dX7_placeOf_2 ?_
  refine q_if_eq (pc := 5) (tgt := 17) C dX7_placeOf_5 (by decide) (fun c1 => ?_) (fun c1 => ?_)
  · replace hm := hm_t c1 hm
    refine q_iconst (pc := 17) (v := (-1 : Int32)) C dX7_placeOf_17 (by decide) ?_
    cases hm
    exact q_iret (pc := 18) C dX7_placeOf_18
  · replace hm := hm_f c1 hm
    refine q_aload_n (pc := 8) C dX7_placeOf_8 rfl 0 rfl ?_
    refine q_get (pc := 9) (T := TX3) (v := .ref (gad G 33)) C (by decide) (ce_31 _ _ _) (ci := 3) rfl inlX3 (j := 9) (by decide) rfl tw_66 (Or.inl rfl) dX7_placeOf_9 ?_
    refine q_iload_n (pc := 12) C dX7_placeOf_12 rfl 1 rfl ?_
    obtain ⟨b1, hm⟩ := oi_some hm
    refine q_iald (pc := 13) C (by decide) (ce_33 _ _ _) (ty_33 _) b1 dX7_placeOf_13 ?_
    refine q_goto (pc := 14) (tgt := 18) C dX7_placeOf_14 (by decide) ?_
    cases hm
    exact q_iret (pc := 18) C dX7_placeOf_18
set_option maxRecDepth 100000 in
theorem w_Sc_markTakenBy_31_L20 {G : Gx} (hi : qinj (gad G)) {X : Cx} (C : QC G X cX6_markTakenBy 5 RX6 2 42 none) {Q : State → Prop} : ∀ (n : Nat) (S : St) (v3 : Int32) (v4 : Int32) (zS : St), m_Sc_markTakenBy_L20 31 n S v3 v4 = some zS → QW G X 5 Q 53 [] [] zS → QW G X 5 Q 20 [(0, .ref (gad G 31)), (3, .int v3), (4, .int v4)] [] S := by
  intro n
  induction n with
  | zero =>
    intro S v3 v4 zS hm kk
    rw [m_Sc_markTakenBy_L20] at hm
    cases hm
  | succ n ih =>
    intro S v3 v4 zS hm kk
    rw [m_Sc_markTakenBy_L20] at hm
    refine q_iload (pc := 20) C dX6_markTakenBy_20 2 rfl ?_
    refine q_if_lt (pc := 22) (tgt := 53) C dX6_markTakenBy_22 (by decide) (fun c1 => ?_) (fun c1 => ?_)
    · replace hm := hm_t c1 hm
      cases hm
      refine q_lv (lv' := []) [] rfl ?_
      exact kk
    · replace hm := hm_f c1 hm
      refine q_iload (pc := 25) C dX6_markTakenBy_25 2 rfl ?_
      refine q_iload_n (pc := 27) C dX6_markTakenBy_27 rfl 1 rfl ?_
      refine q_icmp_ge (pc := 28) (tgt := 53) C dX6_markTakenBy_28 (by decide) (fun c2 => ?_) (fun c2 => ?_)
      · replace hm := hm_t c2 hm
        cases hm
        refine q_lv (lv' := []) [] rfl ?_
        exact kk
      · replace hm := hm_f c2 hm
        refine q_iload (pc := 31) C dX6_markTakenBy_31 2 rfl ?_
        refine q_sipush (pc := 33) (v := (160 : Int32)) C dX6_markTakenBy_33 (by decide) ?_
        refine q_icmp_ge (pc := 36) (tgt := 53) C dX6_markTakenBy_36 (by decide) (fun c3 => ?_) (fun c3 => ?_)
        · replace hm := hm_t c3 hm
          cases hm
          refine q_lv (lv' := []) [] rfl ?_
          exact kk
        · replace hm := hm_f c3 hm
          refine q_aload_n (pc := 39) C dX6_markTakenBy_39 rfl 0 rfl ?_
          refine q_get (pc := 40) (T := TX3) (v := .ref (gad G 34)) C (by decide) (ce_31 _ _ _) (ci := 3) rfl inlX3 (j := 0) (by decide) rfl tw_80 (Or.inl rfl) dX6_markTakenBy_40 ?_
          refine q_iload (pc := 43) C dX6_markTakenBy_43 2 rfl ?_
          refine q_iconst (pc := 45) (v := (1 : Int32)) C dX6_markTakenBy_45 (by decide) ?_
          obtain ⟨b1, hm⟩ := oi_some hm
          refine q_zast1 (pc := 46) C (by decide) (fun _ => ce_34 _ _ _) (ty_34 _) b1 dX6_markTakenBy_46 ?_
          refine q_iinc (pc := 47) (k := 2) (v := (v4 + (1 : Int32))) (lv' := [(4, .int (v4 + (1 : Int32))), (0, .ref (gad G 31)), (3, .int v3)]) C dX6_markTakenBy_47 rfl rfl (by decide) rfl ?_
          refine q_goto (pc := 50) (tgt := 20) C dX6_markTakenBy_50 (by decide) ?_
          refine q_lv (lv' := [(0, .ref (gad G 31)), (3, .int v3), (4, .int (v4 + (1 : Int32)))]) [1, 2, 0] rfl ?_
          exact ih _ _ _ _ hm kk
set_option maxRecDepth 100000 in
theorem c_Sc_markTakenBy_31 {G : Gx} (hi : qinj (gad G)) {S : St} {a1 : Int32} {zS : St} (hm : m_Sc_markTakenBy 31 S a1 = some zS) : QMet G yX6_markTakenBy cX6_markTakenBy 5 none 2 42 [.ref (gad G 31), .int a1] S none zS := by
  refine q_entry (by decide +kernel) rfl hi (Nat.le_of_ble_eq_true rfl) ?_
  intro X C
  refine q_lv (lv' := [(0, .ref (gad G 31)), (1, .int a1)]) [0, 1] rfl ?_
  unfold m_Sc_markTakenBy at hm
  refine q_aload_n (pc := 0) C dX6_markTakenBy_0 rfl 0 rfl ?_
  refine q_iload_n (pc := 1) C dX6_markTakenBy_1 rfl 1 rfl ?_
  obtain ⟨r1, h1, hm⟩ := o1_some hm
  refine q_callU (pc := 2) (k := 31) (As := [.int a1]) (rest := []) (T := TX3) (owner := "Tessera$Store") (x := ⟨"Tessera$Scattered", "placeOf", "(I)I"⟩) C (c_St_placeOf_31 hi h1) (by decide) (ce_31 _ _ _) (ci := 3) rfl (Or.inl rfl) tw_338 tw_339 tw_341 tw_343 tw_62 tw_342 (nA := 1) (by decide +kernel) rfl (by decide) (Nat.le_of_ble_eq_true rfl) rfl dX6_markTakenBy_2 ?_
  refine q_istore_n (pc := 5) (lv' := [(2, .int r1), (0, .ref (gad G 31)), (1, .int a1)]) C dX6_markTakenBy_5 rfl (by decide) rfl ?_
  refine q_iload_n (pc := 6) C dX6_markTakenBy_6 rfl 0 rfl ?_
  refine q_aload_n (pc := 7) C dX6_markTakenBy_7 rfl 1 rfl ?_
  refine q_get (pc := 8) (T := TX3) (v := .ref (gad G 1)) C (by decide) (ce_31 _ _ _) (ci := 3) rfl inlX3 (j := 1) (by decide) rfl tw_318 (Or.inr tw_319) dX6_markTakenBy_8 ?_
  refine q_iload_n (pc := 11) C dX6_markTakenBy_11 rfl 2 rfl ?_
  obtain ⟨r2, h2, hm⟩ := o1_some hm
  refine q_callV (pc := 12) (k := 1) (As := [.int a1]) (rest := [.int r1]) (T := TX2) C (c_Gr_wordsOf hi h2) (by decide) (ce_1 _ _ _) (ci := 2) rfl tw_322 tw_229 tw_230 tw_13 tw_231 (nA := 1) (by decide +kernel) rfl (by decide) (Nat.le_of_ble_eq_true rfl) rfl dX6_markTakenBy_12 ?_
  refine q_iadd (pc := 15) C dX6_markTakenBy_15 ?_
  refine q_istore_n (pc := 16) (lv' := [(3, .int (r1 + r2)), (2, .int r1), (0, .ref (gad G 31)), (1, .int a1)]) C dX6_markTakenBy_16 rfl (by decide) rfl ?_
  refine q_iload_n (pc := 17) C dX6_markTakenBy_17 rfl 1 rfl ?_
  refine q_istore (pc := 18) (lv' := [(4, .int r1), (3, .int (r1 + r2)), (2, .int r1), (0, .ref (gad G 31)), (1, .int a1)]) C dX6_markTakenBy_18 (by decide) rfl ?_
  refine q_lv (lv' := [(0, .ref (gad G 31)), (3, .int (r1 + r2)), (4, .int r1)]) [3, 1, 0] rfl ?_
  obtain ⟨S1, h3, hm⟩ := o1_some hm
  refine w_Sc_markTakenBy_31_L20 hi C 200 _ _ _ _ h3 ?_
  cases hm
  exact q_vret (pc := 53) C dX6_markTakenBy_53
set_option maxRecDepth 100000 in
theorem w_Sc_markTaken_31_L2 {G : Gx} (hi : qinj (gad G)) {X : Cx} (C : QC G X cX6_markTaken 2 RX6 3 66 none) {Q : State → Prop} : ∀ (n : Nat) (S : St) (v1 : Int32) (zS : St), m_Sc_markTaken_L2 31 n S v1 = some zS → QW G X 2 Q 22 [(0, .ref (gad G 31))] [] zS → QW G X 2 Q 2 [(0, .ref (gad G 31)), (1, .int v1)] [] S := by
  intro n
  induction n with
  | zero =>
    intro S v1 zS hm kk
    rw [m_Sc_markTaken_L2] at hm
    cases hm
  | succ n ih =>
    intro S v1 zS hm kk
    rw [m_Sc_markTaken_L2] at hm
    refine q_iload_n (pc := 2) C dX6_markTaken_2 rfl 1 rfl ?_
    refine q_sipush (pc := 3) (v := (160 : Int32)) C dX6_markTaken_3 (by decide) ?_
    refine q_icmp_ge (pc := 6) (tgt := 22) C dX6_markTaken_6 (by decide) (fun c1 => ?_) (fun c1 => ?_)
    · replace hm := hm_t c1 hm
      cases hm
      refine q_lv (lv' := [(0, .ref (gad G 31))]) [0] rfl ?_
      exact kk
    · replace hm := hm_f c1 hm
      refine q_aload_n (pc := 9) C dX6_markTaken_9 rfl 0 rfl ?_
      refine q_get (pc := 10) (T := TX3) (v := .ref (gad G 34)) C (by decide) (ce_31 _ _ _) (ci := 3) rfl inlX3 (j := 0) (by decide) rfl tw_80 (Or.inl rfl) dX6_markTaken_10 ?_
      refine q_iload_n (pc := 13) C dX6_markTaken_13 rfl 1 rfl ?_
      refine q_iconst (pc := 14) (v := (0 : Int32)) C dX6_markTaken_14 (by decide) ?_
      obtain ⟨b1, hm⟩ := oi_some hm
      refine q_zast0 (pc := 15) C (by decide) (fun _ => ce_34 _ _ _) (ty_34 _) b1 dX6_markTaken_15 ?_
      refine q_iinc (pc := 16) (k := 1) (v := (v1 + (1 : Int32))) (lv' := [(1, .int (v1 + (1 : Int32))), (0, .ref (gad G 31))]) C dX6_markTaken_16 rfl rfl (by decide) rfl ?_
      refine q_goto (pc := 19) (tgt := 2) C dX6_markTaken_19 (by decide) ?_
      refine q_lv (lv' := [(0, .ref (gad G 31)), (1, .int (v1 + (1 : Int32)))]) [1, 0] rfl ?_
      exact ih _ _ _ hm kk
set_option maxRecDepth 100000 in
theorem w_Sc_markTaken_31_L24 {G : Gx} (hi : qinj (gad G)) {X : Cx} (C : QC G X cX6_markTaken 2 RX6 3 66 none) {Q : State → Prop} : ∀ (n : Nat) (S : St) (v1 : Int32) (zS : St), m_Sc_markTaken_L24 31 n S v1 = some zS → QW G X 2 Q 54 [] [] zS → QW G X 2 Q 24 [(0, .ref (gad G 31)), (1, .int v1)] [] S := by
  intro n
  induction n with
  | zero =>
    intro S v1 zS hm kk
    rw [m_Sc_markTaken_L24] at hm
    cases hm
  | succ n ih =>
    intro S v1 zS hm kk
    rw [m_Sc_markTaken_L24] at hm
    refine q_iload_n (pc := 24) C dX6_markTaken_24 rfl 1 rfl ?_
    refine q_aload_n (pc := 25) C dX6_markTaken_25 rfl 0 rfl ?_
    refine q_get (pc := 26) (T := TX3) (v := .ref (gad G 1)) C (by decide) (ce_31 _ _ _) (ci := 3) rfl inlX3 (j := 1) (by decide) rfl tw_318 (Or.inr tw_319) dX6_markTaken_26 ?_
    refine q_get (pc := 29) (T := TX2) (v := .int (S 1 6)) C (by decide) (ce_1 _ _ _) (ci := 2) rfl inlX2 (j := 6) (by decide) rfl tw_328 (Or.inl rfl) dX6_markTaken_29 ?_
    refine q_icmp_ge (pc := 32) (tgt := 54) C dX6_markTaken_32 (by decide) (fun c1 => ?_) (fun c1 => ?_)
    · replace hm := hm_t c1 hm
      cases hm
      refine q_lv (lv' := []) [] rfl ?_
      exact kk
    · replace hm := hm_f c1 hm
      refine q_aload_n (pc := 35) C dX6_markTaken_35 rfl 0 rfl ?_
      refine q_iload_n (pc := 36) C dX6_markTaken_36 rfl 1 rfl ?_
      obtain ⟨r1, h1, hm⟩ := o1_some hm
      refine q_callU (pc := 37) (k := 31) (As := [.int v1]) (rest := []) (T := TX3) (owner := "Tessera$Store") (x := ⟨"Tessera$Scattered", "has", "(I)Z"⟩) C (c_St_has_31 hi h1) (by decide) (ce_31 _ _ _) (ci := 3) rfl (Or.inl rfl) tw_329 tw_330 tw_256 tw_332 tw_62 tw_257 (nA := 1) (by decide +kernel) rfl (by decide) (Nat.le_of_ble_eq_true rfl) rfl dX6_markTaken_37 ?_
      refine q_if_eq (pc := 40) (tgt := 48) C dX6_markTaken_40 (by decide) (fun c2 => ?_) (fun c2 => ?_)
      · replace hm := hm_t c2 hm
        refine q_iinc (pc := 48) (k := 1) (v := (v1 + (1 : Int32))) (lv' := [(1, .int (v1 + (1 : Int32))), (0, .ref (gad G 31))]) C dX6_markTaken_48 rfl rfl (by decide) rfl ?_
        refine q_goto (pc := 51) (tgt := 24) C dX6_markTaken_51 (by decide) ?_
        refine q_lv (lv' := [(0, .ref (gad G 31)), (1, .int (v1 + (1 : Int32)))]) [1, 0] rfl ?_
        exact ih _ _ _ hm kk
      · replace hm := hm_f c2 hm
        refine q_aload_n (pc := 43) C dX6_markTaken_43 rfl 0 rfl ?_
        refine q_iload_n (pc := 44) C dX6_markTaken_44 rfl 1 rfl ?_
        obtain ⟨S1, h2, hm⟩ := o1_some hm
        refine q_callU (pc := 45) (k := 31) (As := [.int v1]) (rest := []) (T := TX3) (owner := "Tessera$Scattered") (x := ⟨"Tessera$Scattered", "markTakenBy", "(I)V"⟩) C (c_Sc_markTakenBy_31 hi h2) (by decide) (ce_31 _ _ _) (ci := 3) rfl (Or.inl rfl) tw_333 tw_334 tw_336 tw_344 tw_78 tw_337 (nA := 1) (by decide +kernel) rfl (by decide) (Nat.le_of_ble_eq_true rfl) rfl dX6_markTaken_45 ?_
        refine q_iinc (pc := 48) (k := 1) (v := (v1 + (1 : Int32))) (lv' := [(1, .int (v1 + (1 : Int32))), (0, .ref (gad G 31))]) C dX6_markTaken_48 rfl rfl (by decide) rfl ?_
        refine q_goto (pc := 51) (tgt := 24) C dX6_markTaken_51 (by decide) ?_
        refine q_lv (lv' := [(0, .ref (gad G 31)), (1, .int (v1 + (1 : Int32)))]) [1, 0] rfl ?_
        exact ih _ _ _ hm kk
set_option maxRecDepth 100000 in
theorem c_Sc_markTaken_31 {G : Gx} (hi : qinj (gad G)) {S : St}  {zS : St} (hm : m_Sc_markTaken 31 S  = some zS) : QMet G yX6_markTaken cX6_markTaken 2 none 3 66 [.ref (gad G 31)] S none zS := by
  refine q_entry (by decide +kernel) rfl hi (Nat.le_of_ble_eq_true rfl) ?_
  intro X C
  refine q_lv (lv' := [(0, .ref (gad G 31))]) [0] rfl ?_
  unfold m_Sc_markTaken at hm
  refine q_iconst (pc := 0) (v := (0 : Int32)) C dX6_markTaken_0 (by decide) ?_
  refine q_istore_n (pc := 1) (lv' := [(1, .int (0 : Int32)), (0, .ref (gad G 31))]) C dX6_markTaken_1 rfl (by decide) rfl ?_
  refine q_lv (lv' := [(0, .ref (gad G 31)), (1, .int (0 : Int32))]) [1, 0] rfl ?_
  obtain ⟨S1, h1, hm⟩ := o1_some hm
  refine w_Sc_markTaken_31_L2 hi C 200 _ _ _ h1 ?_
  refine q_iconst (pc := 22) (v := (0 : Int32)) C dX6_markTaken_22 (by decide) ?_
  refine q_istore_n (pc := 23) (lv' := [(1, .int (0 : Int32)), (0, .ref (gad G 31))]) C dX6_markTaken_23 rfl (by decide) rfl ?_
  refine q_lv (lv' := [(0, .ref (gad G 31)), (1, .int (0 : Int32))]) [1, 0] rfl ?_
  obtain ⟨S2, h2, hm⟩ := o1_some hm
  refine w_Sc_markTaken_31_L24 hi C 200 _ _ _ h2 ?_
  cases hm
  exact q_vret (pc := 54) C dX6_markTaken_54
set_option maxRecDepth 100000 in
theorem w_Sc_firstPlaceFor_31_L18 {G : Gx} (hi : qinj (gad G)) {X : Cx} (C : QC G X cX6_firstPlaceFor 5 RX6 4 87 (some .int)) : ∀ (n : Nat) (S : St) (v2 : Int32) (v3 : Int32) (v4 : Int32) (zr : Int32) (zS : St), m_Sc_firstPlaceFor_L18 31 n S v2 v3 v4 = some (zr, zS) → QW G X 5 (QE G X (some (.int zr)) zS) 18 [(0, .ref (gad G 31)), (2, .int v2), (3, .int v3), (4, .int v4)] [] S := by
  intro n
  induction n with
  | zero =>
    intro S v2 v3 v4 zr zS hm
    rw [m_Sc_firstPlaceFor_L18] at hm
    cases hm
  | succ n ih =>
    intro S v2 v3 v4 zr zS hm
    rw [m_Sc_firstPlaceFor_L18] at hm
    refine q_iload (pc := 18) C dX6_firstPlaceFor_18 3 rfl ?_
    refine q_aload_n (pc := 20) C dX6_firstPlaceFor_20 rfl 0 rfl ?_
    refine q_get (pc := 21) (T := TX3) (v := .int (S 31 2)) C (by decide) (ce_31 _ _ _) (ci := 3) rfl inlX3 (j := 2) (by decide) rfl tw_320 (Or.inr tw_321) dX6_firstPlaceFor_21 ?_
    refine q_icmp_ge (pc := 24) (tgt := 71) C dX6_firstPlaceFor_24 (by decide) (fun c1 => ?_) (fun c1 => ?_)
    · replace hm := hm_t c1 hm
      refine q_iconst (pc := 71) (v := (-1 : Int32)) C dX6_firstPlaceFor_71 (by decide) ?_
      cases hm
      exact q_iret (pc := 72) C dX6_firstPlaceFor_72
    · replace hm := hm_f c1 hm
      refine q_iload (pc := 27) C dX6_firstPlaceFor_27 3 rfl ?_
      refine q_sipush (pc := 29) (v := (160 : Int32)) C dX6_firstPlaceFor_29 (by decide) ?_
      refine q_icmp_ge (pc := 32) (tgt := 71) C dX6_firstPlaceFor_32 (by decide) (fun c2 => ?_) (fun c2 => ?_)
      · replace hm := hm_t c2 hm
        refine q_iconst (pc := 71) (v := (-1 : Int32)) C dX6_firstPlaceFor_71 (by decide) ?_
        cases hm
        exact q_iret (pc := 72) C dX6_firstPlaceFor_72
      · replace hm := hm_f c2 hm
        refine q_aload_n (pc := 35) C dX6_firstPlaceFor_35 rfl 0 rfl ?_
        refine q_get (pc := 36) (T := TX3) (v := .ref (gad G 34)) C (by decide) (ce_31 _ _ _) (ci := 3) rfl inlX3 (j := 0) (by decide) rfl tw_80 (Or.inl rfl) dX6_firstPlaceFor_36 ?_
        refine q_iload (pc := 39) C dX6_firstPlaceFor_39 3 rfl ?_
        obtain ⟨b1, hm⟩ := oi_some hm
        refine q_zald (pc := 41) C (by decide) (ce_34 _ _ _) (ty_34 _) b1 dX6_firstPlaceFor_41 ?_
        refine q_if_eq (pc := 42) (tgt := 49) C dX6_firstPlaceFor_42 (by decide) (fun c3 => ?_) (fun c3 => ?_)
        · replace hm := hm_t c3 hm
          refine q_iload_n (pc := 49) C dX6_firstPlaceFor_49 rfl 2 rfl ?_
          refine q_iconst (pc := 50) (v := (1 : Int32)) C dX6_firstPlaceFor_50 (by decide) ?_
          refine q_iadd (pc := 51) C dX6_firstPlaceFor_51 ?_
          refine q_istore_n (pc := 52) (lv' := [(3, .int (v3 + (1 : Int32))), (0, .ref (gad G 31)), (2, .int v2), (4, .int v4)]) C dX6_firstPlaceFor_52 rfl (by decide) rfl ?_
          refine q_iload_n (pc := 53) C dX6_firstPlaceFor_53 rfl 0 rfl ?_
          refine q_iload_n (pc := 54) C dX6_firstPlaceFor_54 rfl 2 rfl ?_
          refine q_icmp_ne (pc := 55) (tgt := 65) C dX6_firstPlaceFor_55 (by decide) (fun c4 => ?_) (fun c4 => ?_)
          · replace hm := hm_f c4 hm
            refine q_iinc (pc := 65) (k := 3) (v := (v4 + (1 : Int32))) (lv' := [(4, .int (v4 + (1 : Int32))), (3, .int (v3 + (1 : Int32))), (0, .ref (gad G 31)), (2, .int v2)]) C dX6_firstPlaceFor_65 rfl rfl (by decide) rfl ?_
            refine q_goto (pc := 68) (tgt := 18) C dX6_firstPlaceFor_68 (by decide) ?_
            refine q_lv (lv' := [(0, .ref (gad G 31)), (2, .int v2), (3, .int (v3 + (1 : Int32))), (4, .int (v4 + (1 : Int32)))]) [2, 3, 1, 0] rfl ?_
            exact ih _ _ _ _ _ _ hm
          · replace hm := hm_t c4 hm
            refine q_iload (pc := 58) C dX6_firstPlaceFor_58 3 rfl ?_
            refine q_iload_n (pc := 60) C dX6_firstPlaceFor_60 rfl 2 rfl ?_
            refine q_isub (pc := 61) C dX6_firstPlaceFor_61 ?_
            refine q_iconst (pc := 62) (v := (1 : Int32)) C dX6_firstPlaceFor_62 (by decide) ?_
            refine q_iadd (pc := 63) C dX6_firstPlaceFor_63 ?_
            cases hm
            exact q_iret (pc := 64) C dX6_firstPlaceFor_64
        · replace hm := hm_f c3 hm
          refine q_iconst (pc := 45) (v := (0 : Int32)) C dX6_firstPlaceFor_45 (by decide) ?_
          refine q_goto (pc := 46) (tgt := 52) C dX6_firstPlaceFor_46 (by decide) ?_
          refine q_istore_n (pc := 52) (lv' := [(3, .int (0 : Int32)), (0, .ref (gad G 31)), (2, .int v2), (4, .int v4)]) C dX6_firstPlaceFor_52 rfl (by decide) rfl ?_
          refine q_iload_n (pc := 53) C dX6_firstPlaceFor_53 rfl 0 rfl ?_
          refine q_iload_n (pc := 54) C dX6_firstPlaceFor_54 rfl 2 rfl ?_
          refine q_icmp_ne (pc := 55) (tgt := 65) C dX6_firstPlaceFor_55 (by decide) (fun c5 => ?_) (fun c5 => ?_)
          · replace hm := hm_f c5 hm
            refine q_iinc (pc := 65) (k := 3) (v := (v4 + (1 : Int32))) (lv' := [(4, .int (v4 + (1 : Int32))), (3, .int (0 : Int32)), (0, .ref (gad G 31)), (2, .int v2)]) C dX6_firstPlaceFor_65 rfl rfl (by decide) rfl ?_
            refine q_goto (pc := 68) (tgt := 18) C dX6_firstPlaceFor_68 (by decide) ?_
            refine q_lv (lv' := [(0, .ref (gad G 31)), (2, .int v2), (3, .int (0 : Int32)), (4, .int (v4 + (1 : Int32)))]) [2, 3, 1, 0] rfl ?_
            exact ih _ _ _ _ _ _ hm
          · replace hm := hm_t c5 hm
            refine q_iload (pc := 58) C dX6_firstPlaceFor_58 3 rfl ?_
            refine q_iload_n (pc := 60) C dX6_firstPlaceFor_60 rfl 2 rfl ?_
            refine q_isub (pc := 61) C dX6_firstPlaceFor_61 ?_
            refine q_iconst (pc := 62) (v := (1 : Int32)) C dX6_firstPlaceFor_62 (by decide) ?_
            refine q_iadd (pc := 63) C dX6_firstPlaceFor_63 ?_
            cases hm
            exact q_iret (pc := 64) C dX6_firstPlaceFor_64
set_option maxRecDepth 100000 in
theorem c_Sc_firstPlaceFor_31 {G : Gx} (hi : qinj (gad G)) {S : St} {a1 : Int32} {zr : Int32} {zS : St} (hm : m_Sc_firstPlaceFor 31 S a1 = some (zr, zS)) : QMet G yX6_firstPlaceFor cX6_firstPlaceFor 5 (some .int) 4 87 [.ref (gad G 31), .int a1] S (some (.int zr)) zS := by
  refine q_entry (by decide +kernel) rfl hi (Nat.le_of_ble_eq_true rfl) ?_
  intro X C
  refine q_lv (lv' := [(0, .ref (gad G 31)), (1, .int a1)]) [0, 1] rfl ?_
  unfold m_Sc_firstPlaceFor at hm
  refine q_aload_n (pc := 0) C dX6_firstPlaceFor_0 rfl 0 rfl ?_
  refine q_get (pc := 1) (T := TX3) (v := .ref (gad G 1)) C (by decide) (ce_31 _ _ _) (ci := 3) rfl inlX3 (j := 1) (by decide) rfl tw_318 (Or.inr tw_319) dX6_firstPlaceFor_1 ?_
  refine q_iload_n (pc := 4) C dX6_firstPlaceFor_4 rfl 1 rfl ?_
  obtain ⟨r1, h1, hm⟩ := o1_some hm
  refine q_callV (pc := 5) (k := 1) (As := [.int a1]) (rest := []) (T := TX2) C (c_Gr_wordsOf hi h1) (by decide) (ce_1 _ _ _) (ci := 2) rfl tw_322 tw_229 tw_230 tw_13 tw_231 (nA := 1) (by decide +kernel) rfl (by decide) (Nat.le_of_ble_eq_true rfl) rfl dX6_firstPlaceFor_5 ?_
  refine q_istore_n (pc := 8) (lv' := [(2, .int r1), (0, .ref (gad G 31)), (1, .int a1)]) C dX6_firstPlaceFor_8 rfl (by decide) rfl ?_
  refine q_iconst (pc := 9) (v := (0 : Int32)) C dX6_firstPlaceFor_9 (by decide) ?_
  refine q_istore_n (pc := 10) (lv' := [(3, .int (0 : Int32)), (2, .int r1), (0, .ref (gad G 31)), (1, .int a1)]) C dX6_firstPlaceFor_10 rfl (by decide) rfl ?_
  refine q_aload_n (pc := 11) C dX6_firstPlaceFor_11 rfl 2 rfl ?_
  obtain ⟨S1, h2, hm⟩ := o1_some hm
  refine q_callU (pc := 12) (k := 31) (As := []) (rest := []) (T := TX3) (owner := "Tessera$Scattered") (x := ⟨"Tessera$Scattered", "markTaken", "()V"⟩) C (c_Sc_markTaken_31 hi h2) (by decide) (ce_31 _ _ _) (ci := 3) rfl (Or.inl rfl) tw_323 tw_324 tw_326 tw_345 tw_78 tw_327 (nA := 0) (by decide +kernel) rfl (by decide) (Nat.le_of_ble_eq_true rfl) rfl dX6_firstPlaceFor_12 ?_
  refine q_iconst (pc := 15) (v := (0 : Int32)) C dX6_firstPlaceFor_15 (by decide) ?_
  refine q_istore (pc := 16) (lv' := [(4, .int (0 : Int32)), (3, .int (0 : Int32)), (2, .int r1), (0, .ref (gad G 31)), (1, .int a1)]) C dX6_firstPlaceFor_16 (by decide) rfl ?_
  refine q_lv (lv' := [(0, .ref (gad G 31)), (2, .int r1), (3, .int (0 : Int32)), (4, .int (0 : Int32))]) [3, 2, 1, 0] rfl ?_
  exact w_Sc_firstPlaceFor_31_L18 hi C 200 _ _ _ _ _ _ hm
set_option maxRecDepth 100000 in
theorem c_St_put_31 {G : Gx} (hi : qinj (gad G)) {S : St} {a1 : Int32} {a2 : Int32} {zS : St} (hm : m_St_put 31 1 S a1 a2 = some zS) : QMet G yX7_put cX7_put 3 none 1 21 [.ref (gad G 31), .int a1, .int a2] S none zS := by
  refine q_entry (by decide +kernel) rfl hi (Nat.le_of_ble_eq_true rfl) ?_
  intro X C
  refine q_lv (lv' := [(0, .ref (gad G 31)), (1, .int a1), (2, .int a2)]) [0, 1, 2] rfl ?_
  unfold m_St_put at hm
  refine q_aload_n (pc := 0) C dX7_put_0 rfl 0 rfl ?_
  refine q_get (pc := 1) (T := TX3) (v := .ref (gad G 1)) C (by decide) (ce_31 _ _ _) (ci := 3) rfl inlX3 (j := 1) (by decide) rfl tw_67 (Or.inl rfl) dX7_put_1 ?_
  refine q_iload_n (pc := 4) C dX7_put_4 rfl 1 rfl ?_
  obtain ⟨r1, h1, hm⟩ := o1_some hm
  refine q_callV (pc := 5) (k := 1) (As := [.int a1]) (rest := []) (T := TX2) C (c_Gr_isThing hi h1) (by decide) (ce_1 _ _ _) (ci := 2) rfl tw_299 tw_300 tw_301 tw_13 tw_302 (nA := 1) (by decide +kernel) rfl (by decide) (Nat.le_of_ble_eq_true rfl) rfl dX7_put_5 ?_
  refine q_if_eq (pc := 8) (tgt := 25) C dX7_put_8 (by decide) (fun c1 => ?_) (fun c1 => ?_)
  · replace hm := hm_t c1 hm
    cases hm
    exact q_vret (pc := 25) C dX7_put_25
  · replace hm := hm_f c1 hm
    refine q_aload_n (pc := 11) C dX7_put_11 rfl 0 rfl ?_
    refine q_get (pc := 12) (T := TX3) (v := .ref (gad G 32)) C (by decide) (ce_31 _ _ _) (ci := 3) rfl inlX3 (j := 8) (by decide) rfl tw_65 (Or.inl rfl) dX7_put_12 ?_
    refine q_iload_n (pc := 15) C dX7_put_15 rfl 1 rfl ?_
    refine q_iconst (pc := 16) (v := (1 : Int32)) C dX7_put_16 (by decide) ?_
    obtain ⟨b1, hm⟩ := oi_some hm
    refine q_zast1 (pc := 17) C (by decide) (fun _ => ce_32 _ _ _) (ty_32 _) b1 dX7_put_17 ?_
    refine q_aload_n (pc := 18) C dX7_put_18 rfl 0 rfl ?_
    refine q_get (pc := 19) (T := TX3) (v := .ref (gad G 33)) C (by decide) (ce_31 _ _ _) (ci := 3) rfl inlX3 (j := 9) (by decide) rfl tw_66 (Or.inl rfl) dX7_put_19 ?_
    refine q_iload_n (pc := 22) C dX7_put_22 rfl 1 rfl ?_
    refine q_iload_n (pc := 23) C dX7_put_23 rfl 2 rfl ?_
    obtain ⟨b2, hm⟩ := oi_some hm
    refine q_iast (pc := 24) C (by decide) (fun _ => ce_33 _ _ _) (ty_33 _) b2 dX7_put_24 ?_
    cases hm
    exact q_vret (pc := 25) C dX7_put_25
set_option maxRecDepth 100000 in
theorem c_St_breakDown_Mar_31 {G : Gx} (hi : qinj (gad G)) {S : St}  {zS : St} (hm : m_St_breakDown_Mar S  = some zS) : QMet G yX7_breakDown cX7_breakDown 1 none 2 41 [.ref (gad G 31)] S none zS := by
  refine q_entry (by decide +kernel) rfl hi (Nat.le_of_ble_eq_true rfl) ?_
  intro X C
  refine q_lv (lv' := [(0, .ref (gad G 31))]) [0] rfl ?_
  unfold m_St_breakDown_Mar at hm
  refine q_aload_n (pc := 0) C dX7_breakDown_0 rfl 0 rfl ?_
  refine q_iconst (pc := 1) (v := (1 : Int32)) C dX7_breakDown_1 (by decide) ?_
  refine q_put (pc := 2) (T := TX3) (ty := .boolean) C tyX3 tyX3_ok nmX3 (by decide) (ce_31 _ _ _) (pe_31_6 _ _ _ _) (ci := 3) rfl inlX3 (j := 6) (by decide) (Nat.le_of_ble_eq_true rfl) tw_136 (Or.inl rfl) rfl (by decide +kernel) (by decide) (by decide) dX7_breakDown_2 ?_
  refine q_aload_n (pc := 5) C dX7_breakDown_5 rfl 0 rfl ?_
  obtain ⟨S1, h1, hm⟩ := o1_some hm
  refine q_callU (pc := 6) (k := 31) (As := []) (rest := []) (T := TX3) (owner := "Tessera$Store") (x := ⟨"Tessera$Store", "letAllGo", "()V"⟩) C (c_St_letAllGo_31 hi h1) (by decide) (ce_31 _ _ _) (ci := 3) rfl (Or.inl rfl) tw_138 tw_139 tw_141 tw_144 tw_62 tw_142 (nA := 0) (by decide +kernel) rfl (by decide) (Nat.le_of_ble_eq_true rfl) rfl dX7_breakDown_6 ?_
  refine q_aload_n (pc := 9) C dX7_breakDown_9 rfl 0 rfl ?_
  obtain ⟨S2, h2, hm⟩ := o1_some hm
  refine q_callU (pc := 10) (k := 31) (As := []) (rest := []) (T := TX3) (owner := "Tessera$Store") (x := ⟨"Tessera$Store", "forgetThings", "()V"⟩) C (c_Mar_forgetThings hi h2) (by decide) (ce_31 _ _ _) (ci := 3) rfl (Or.inr (Or.inl (by decide))) tw_146 tw_147 tw_157 tw_156 tw_19 tw_158 (nA := 0) (by decide +kernel) rfl (by decide) (Nat.le_of_ble_eq_true rfl) rfl dX7_breakDown_10 ?_
  cases hm
  exact q_vret (pc := 13) C dX7_breakDown_13
set_option maxRecDepth 100000 in
theorem w_Mar_collectNow_L18 {G : Gx} (hi : qinj (gad G)) {X : Cx} (C : QC G X cX3_collectNow 3 RX3 4 86 (some .int)) {Q : State → Prop} : ∀ (n : Nat) (S : St) (v1 : Int32) (v2 : Int32) (zS : St), m_Mar_collectNow_L18 n S v2 = some zS → QW G X 3 Q 41 [(0, .ref (gad G 31)), (1, .int v1)] [] zS → QW G X 3 Q 18 [(0, .ref (gad G 31)), (1, .int v1), (2, .int v2)] [] S := by
  intro n
  induction n with
  | zero =>
    intro S v1 v2 zS hm kk
    rw [m_Mar_collectNow_L18] at hm
    cases hm
  | succ n ih =>
    intro S v1 v2 zS hm kk
    rw [m_Mar_collectNow_L18] at hm
    refine q_aload_n (pc := 18) C dX3_collectNow_18 rfl 0 rfl ?_
    refine q_get (pc := 19) (T := TX3) (v := .int (S 31 10)) C (by decide) (ce_31 _ _ _) (ci := 3) rfl inlX3 (j := 10) (by decide) rfl tw_159 (Or.inl rfl) dX3_collectNow_19 ?_
    refine q_if_eq (pc := 22) (tgt := 41) C dX3_collectNow_22 (by decide) (fun c1 => ?_) (fun c1 => ?_)
    · replace hm := hm_t c1 hm
      cases hm
      refine q_lv (lv' := [(0, .ref (gad G 31)), (1, .int v1)]) [0, 1] rfl ?_
      exact kk
    · replace hm := hm_f c1 hm
      refine q_iload_n (pc := 25) C dX3_collectNow_25 rfl 2 rfl ?_
      refine q_bipush (pc := 26) (v := (80 : Int32)) C dX3_collectNow_26 (by decide) ?_
      refine q_icmp_gt (pc := 28) (tgt := 41) C dX3_collectNow_28 (by decide) (fun c2 => ?_) (fun c2 => ?_)
      · replace hm := hm_t c2 hm
        cases hm
        refine q_lv (lv' := [(0, .ref (gad G 31)), (1, .int v1)]) [0, 1] rfl ?_
        exact kk
      · replace hm := hm_f c2 hm
        refine q_aload_n (pc := 31) C dX3_collectNow_31 rfl 0 rfl ?_
        obtain ⟨S1, h1, hm⟩ := o1_some hm
        refine q_callV (pc := 32) (k := 31) (As := []) (rest := []) (T := TX3) C (c_Mar_step hi h1) (by decide) (ce_31 _ _ _) (ci := 3) rfl tw_444 tw_445 tw_446 tw_19 tw_447 (nA := 0) (by decide +kernel) rfl (by decide) (Nat.le_of_ble_eq_true rfl) rfl dX3_collectNow_32 ?_
        refine q_iinc (pc := 35) (k := 2) (v := (v2 + (1 : Int32))) (lv' := [(2, .int (v2 + (1 : Int32))), (0, .ref (gad G 31)), (1, .int v1)]) C dX3_collectNow_35 rfl rfl (by decide) rfl ?_
        refine q_goto (pc := 38) (tgt := 18) C dX3_collectNow_38 (by decide) ?_
        refine q_lv (lv' := [(0, .ref (gad G 31)), (1, .int v1), (2, .int (v2 + (1 : Int32)))]) [1, 2, 0] rfl ?_
        exact ih _ _ _ _ hm kk
set_option maxRecDepth 100000 in
theorem c_Mar_collectNow {G : Gx} (hi : qinj (gad G)) {S : St}  {zr : Int32} {zS : St} (hm : m_Mar_collectNow S  = some (zr, zS)) : QMet G yX3_collectNow cX3_collectNow 3 (some .int) 4 86 [.ref (gad G 31)] S (some (.int zr)) zS := by
  refine q_entry (by decide +kernel) rfl hi (Nat.le_of_ble_eq_true rfl) ?_
  intro X C
  refine q_lv (lv' := [(0, .ref (gad G 31))]) [0] rfl ?_
  unfold m_Mar_collectNow at hm
  refine q_aload_n (pc := 0) C dX3_collectNow_0 rfl 0 rfl ?_
  obtain ⟨r1, h1, hm⟩ := o1_some hm
  refine q_callU (pc := 1) (k := 31) (As := []) (rest := []) (T := TX3) (owner := "Tessera$Store") (x := ⟨"Tessera$Marking", "countHad", "()I"⟩) C (c_St_countHad_31 hi h1) (by decide) (ce_31 _ _ _) (ci := 3) rfl (Or.inl rfl) tw_458 tw_459 tw_250 tw_460 tw_62 tw_251 (nA := 0) (by decide +kernel) rfl (by decide) (Nat.le_of_ble_eq_true rfl) rfl dX3_collectNow_1 ?_
  refine q_istore_n (pc := 4) (lv' := [(1, .int r1), (0, .ref (gad G 31))]) C dX3_collectNow_4 rfl (by decide) rfl ?_
  refine q_aload_n (pc := 5) C dX3_collectNow_5 rfl 1 rfl ?_
  refine q_get (pc := 6) (T := TX3) (v := .int (S 31 10)) C (by decide) (ce_31 _ _ _) (ci := 3) rfl inlX3 (j := 10) (by decide) rfl tw_159 (Or.inl rfl) dX3_collectNow_6 ?_
  refine q_if_ne (pc := 9) (tgt := 16) C dX3_collectNow_9 (by decide) (fun c1 => ?_) (fun c1 => ?_)
  · replace hm := hm_f c1 hm
    refine q_iconst (pc := 16) (v := (0 : Int32)) C dX3_collectNow_16 (by decide) ?_
    refine q_istore_n (pc := 17) (lv' := [(2, .int (0 : Int32)), (1, .int r1), (0, .ref (gad G 31))]) C dX3_collectNow_17 rfl (by decide) rfl ?_
    refine q_lv (lv' := [(0, .ref (gad G 31)), (1, .int r1), (2, .int (0 : Int32))]) [2, 1, 0] rfl ?_
    obtain ⟨S1, h2, hm⟩ := o1_some hm
    refine w_Mar_collectNow_L18 hi C 200 _ _ _ _ h2 ?_
    refine q_iload_n (pc := 41) C dX3_collectNow_41 rfl 1 rfl ?_
    refine q_aload_n (pc := 42) C dX3_collectNow_42 rfl 0 rfl ?_
    obtain ⟨r2, h3, hm⟩ := o1_some hm
    refine q_callU (pc := 43) (k := 31) (As := []) (rest := [.int r1]) (T := TX3) (owner := "Tessera$Store") (x := ⟨"Tessera$Marking", "countHad", "()I"⟩) C (c_St_countHad_31 hi h3) (by decide) (ce_31 _ _ _) (ci := 3) rfl (Or.inl rfl) tw_458 tw_459 tw_250 tw_460 tw_62 tw_251 (nA := 0) (by decide +kernel) rfl (by decide) (Nat.le_of_ble_eq_true rfl) rfl dX3_collectNow_43 ?_
    refine q_isub (pc := 46) C dX3_collectNow_46 ?_
    cases hm
    exact q_iret (pc := 47) C dX3_collectNow_47
  · replace hm := hm_t c1 hm
    refine q_aload_n (pc := 12) C dX3_collectNow_12 rfl 1 rfl ?_
    obtain ⟨S2, h4, hm⟩ := o1_some hm
    refine q_callV (pc := 13) (k := 31) (As := []) (rest := []) (T := TX3) C (c_Mar_beginToMark hi h4) (by decide) (ce_31 _ _ _) (ci := 3) rfl tw_417 tw_418 tw_419 tw_19 tw_420 (nA := 0) (by decide +kernel) rfl (by decide) (Nat.le_of_ble_eq_true rfl) rfl dX3_collectNow_13 ?_
    refine q_iconst (pc := 16) (v := (0 : Int32)) C dX3_collectNow_16 (by decide) ?_
    refine q_istore_n (pc := 17) (lv' := [(2, .int (0 : Int32)), (1, .int r1), (0, .ref (gad G 31))]) C dX3_collectNow_17 rfl (by decide) rfl ?_
    refine q_lv (lv' := [(0, .ref (gad G 31)), (1, .int r1), (2, .int (0 : Int32))]) [2, 1, 0] rfl ?_
    obtain ⟨S3, h5, hm⟩ := o1_some hm
    refine w_Mar_collectNow_L18 hi C 200 _ _ _ _ h5 ?_
    refine q_iload_n (pc := 41) C dX3_collectNow_41 rfl 1 rfl ?_
    refine q_aload_n (pc := 42) C dX3_collectNow_42 rfl 0 rfl ?_
    obtain ⟨r3, h6, hm⟩ := o1_some hm
    refine q_callU (pc := 43) (k := 31) (As := []) (rest := [.int r1]) (T := TX3) (owner := "Tessera$Store") (x := ⟨"Tessera$Marking", "countHad", "()I"⟩) C (c_St_countHad_31 hi h6) (by decide) (ce_31 _ _ _) (ci := 3) rfl (Or.inl rfl) tw_458 tw_459 tw_250 tw_460 tw_62 tw_251 (nA := 0) (by decide +kernel) rfl (by decide) (Nat.le_of_ble_eq_true rfl) rfl dX3_collectNow_43 ?_
    refine q_isub (pc := 46) C dX3_collectNow_46 ?_
    cases hm
    exact q_iret (pc := 47) C dX3_collectNow_47
set_option maxRecDepth 100000 in
theorem c_Mar_placeNew {G : Gx} (hi : qinj (gad G)) {S : St} {a1 : Int32} {zS : St} (hm : m_Mar_placeNew S a1 = some zS) : QMet G yX3_placeNew cX3_placeNew 3 none 5 111 [.ref (gad G 31), .int a1] S none zS := by
  refine q_entry (by decide +kernel) rfl hi (Nat.le_of_ble_eq_true rfl) ?_
  intro X C
  refine q_lv (lv' := [(0, .ref (gad G 31)), (1, .int a1)]) [0, 1] rfl ?_
  unfold m_Mar_placeNew at hm
  refine q_aload_n (pc := 0) C dX3_placeNew_0 rfl 0 rfl ?_
  obtain ⟨S1, h1, hm⟩ := o1_some hm
  refine q_callV (pc := 1) (k := 31) (As := []) (rest := []) (T := TX3) C (c_Mar_workAheadOfPlacing hi h1) (by decide) (ce_31 _ _ _) (ci := 3) rfl tw_405 tw_406 tw_407 tw_19 tw_408 (nA := 0) (by decide +kernel) rfl (by decide) (Nat.le_of_ble_eq_true rfl) rfl dX3_placeNew_1 ?_
  refine q_aload_n (pc := 4) C dX3_placeNew_4 rfl 0 rfl ?_
  refine q_iload_n (pc := 5) C dX3_placeNew_5 rfl 1 rfl ?_
  obtain ⟨r1, S2, h2, hm⟩ := ob_some hm
  refine q_callU (pc := 6) (k := 31) (As := [.int a1]) (rest := []) (T := TX3) (owner := "Tessera$Scattered") (x := ⟨"Tessera$Marking", "firstPlaceFor", "(I)I"⟩) C (c_Sc_firstPlaceFor_31 hi h2) (by decide) (ce_31 _ _ _) (ci := 3) rfl (Or.inl rfl) tw_468 tw_469 tw_316 tw_470 tw_78 tw_317 (nA := 1) (by decide +kernel) rfl (by decide) (Nat.le_of_ble_eq_true rfl) rfl dX3_placeNew_6 ?_
  refine q_istore_n (pc := 9) (lv' := [(2, .int r1), (0, .ref (gad G 31)), (1, .int a1)]) C dX3_placeNew_9 rfl (by decide) rfl ?_
  refine q_iload_n (pc := 10) C dX3_placeNew_10 rfl 0 rfl ?_
  refine q_iconst (pc := 11) (v := (-1 : Int32)) C dX3_placeNew_11 (by decide) ?_
  refine q_icmp_ne (pc := 12) (tgt := 26) C dX3_placeNew_12 (by decide) (fun c1 => ?_) (fun c1 => ?_)
  · replace hm := hm_f c1 hm
    refine q_iload_n (pc := 26) C dX3_placeNew_26 rfl 0 rfl ?_
    refine q_iconst (pc := 27) (v := (-1 : Int32)) C dX3_placeNew_27 (by decide) ?_
    refine q_icmp_ne (pc := 28) (tgt := 42) C dX3_placeNew_28 (by decide) (fun c2 => ?_) (fun c2 => ?_)
    · replace hm := hm_f c2 hm
      refine q_iload_n (pc := 42) C dX3_placeNew_42 rfl 0 rfl ?_
      refine q_iconst (pc := 43) (v := (-1 : Int32)) C dX3_placeNew_43 (by decide) ?_
      refine q_icmp_ne (pc := 44) (tgt := 52) C dX3_placeNew_44 (by decide) (fun c3 => ?_) (fun c3 => ?_)
      · replace hm := hm_f c3 hm
        refine q_aload_n (pc := 52) C dX3_placeNew_52 rfl 1 rfl ?_
        refine q_iload_n (pc := 53) C dX3_placeNew_53 rfl 2 rfl ?_
        refine q_iload_n (pc := 54) C dX3_placeNew_54 rfl 0 rfl ?_
        obtain ⟨S3, h3, hm⟩ := o1_some hm
        refine q_callU (pc := 55) (k := 31) (As := [.int a1, .int r1]) (rest := []) (T := TX3) (owner := "Tessera$Store") (x := ⟨"Tessera$Marking", "put", "(II)V"⟩) C (c_St_put_31 hi h3) (by decide) (ce_31 _ _ _) (ci := 3) rfl (Or.inl rfl) tw_478 tw_479 tw_297 tw_480 tw_62 tw_298 (nA := 2) (by decide +kernel) rfl (by decide) (Nat.le_of_ble_eq_true rfl) rfl dX3_placeNew_55 ?_
        refine q_aload_n (pc := 58) C dX3_placeNew_58 rfl 1 rfl ?_
        refine q_iload_n (pc := 59) C dX3_placeNew_59 rfl 2 rfl ?_
        refine q_aload_n (pc := 60) C dX3_placeNew_60 rfl 1 rfl ?_
        refine q_get (pc := 61) (T := TX3) (v := .int (S3 31 10)) C (by decide) (ce_31 _ _ _) (ci := 3) rfl inlX3 (j := 10) (by decide) rfl tw_159 (Or.inl rfl) dX3_placeNew_61 ?_
        refine q_if_eq (pc := 64) (tgt := 71) C dX3_placeNew_64 (by decide) (fun c4 => ?_) (fun c4 => ?_)
        · replace hm := hm_t c4 hm
          refine q_iconst (pc := 71) (v := (0 : Int32)) C dX3_placeNew_71 (by decide) ?_
          obtain ⟨S4, h4, hm⟩ := o1_some hm
          refine q_callV (pc := 72) (k := 31) (As := [.int a1, .int (0 : Int32)]) (rest := []) (T := TX3) C (c_Mar_paint hi h4) (by decide) (ce_31 _ _ _) (ci := 3) rfl tw_439 tw_440 tw_441 tw_19 tw_442 (nA := 2) (by decide +kernel) rfl (by decide) (Nat.le_of_ble_eq_true rfl) rfl dX3_placeNew_72 ?_
          cases hm
          exact q_vret (pc := 75) C dX3_placeNew_75
        · replace hm := hm_f c4 hm
          refine q_iconst (pc := 67) (v := (2 : Int32)) C dX3_placeNew_67 (by decide) ?_
          refine q_goto (pc := 68) (tgt := 72) C dX3_placeNew_68 (by decide) ?_
          obtain ⟨S5, h5, hm⟩ := o1_some hm
          refine q_callV (pc := 72) (k := 31) (As := [.int a1, .int (2 : Int32)]) (rest := []) (T := TX3) C (c_Mar_paint hi h5) (by decide) (ce_31 _ _ _) (ci := 3) rfl tw_439 tw_440 tw_441 tw_19 tw_442 (nA := 2) (by decide +kernel) rfl (by decide) (Nat.le_of_ble_eq_true rfl) rfl dX3_placeNew_72 ?_
          cases hm
          exact q_vret (pc := 75) C dX3_placeNew_75
      · replace hm := hm_t c3 hm
        refine q_aload_n (pc := 47) C dX3_placeNew_47 rfl 1 rfl ?_
        obtain ⟨S6, h6, hm⟩ := o1_some hm
        refine q_callU (pc := 48) (k := 31) (As := []) (rest := []) (T := TX3) (owner := "Tessera$Store") (x := ⟨"Tessera$Marking", "breakDown", "()V"⟩) C (c_St_breakDown_Mar_31 hi h6) (by decide) (ce_31 _ _ _) (ci := 3) rfl (Or.inl rfl) tw_475 tw_476 tw_306 tw_477 tw_62 tw_307 (nA := 0) (by decide +kernel) rfl (by decide) (Nat.le_of_ble_eq_true rfl) rfl dX3_placeNew_48 ?_
        cases hm
        exact q_vret (pc := 51) C dX3_placeNew_51
    · replace hm := hm_t c2 hm
      refine q_aload_n (pc := 31) C dX3_placeNew_31 rfl 1 rfl ?_
      obtain ⟨r2, S7, h7, hm⟩ := ob_some hm
      refine q_callV (pc := 32) (k := 31) (As := []) (rest := []) (T := TX3) C (c_Mar_collectNow hi h7) (by decide) (ce_31 _ _ _) (ci := 3) rfl tw_471 tw_472 tw_473 tw_19 tw_474 (nA := 0) (by decide +kernel) rfl (by decide) (Nat.le_of_ble_eq_true rfl) rfl dX3_placeNew_32 ?_
      refine q_pop (pc := 35) C dX3_placeNew_35 rfl ?_
      refine q_aload_n (pc := 36) C dX3_placeNew_36 rfl 1 rfl ?_
      refine q_iload_n (pc := 37) C dX3_placeNew_37 rfl 2 rfl ?_
      obtain ⟨r3, S8, h8, hm⟩ := ob_some hm
      refine q_callU (pc := 38) (k := 31) (As := [.int a1]) (rest := []) (T := TX3) (owner := "Tessera$Scattered") (x := ⟨"Tessera$Marking", "firstPlaceFor", "(I)I"⟩) C (c_Sc_firstPlaceFor_31 hi h8) (by decide) (ce_31 _ _ _) (ci := 3) rfl (Or.inl rfl) tw_468 tw_469 tw_316 tw_470 tw_78 tw_317 (nA := 1) (by decide +kernel) rfl (by decide) (Nat.le_of_ble_eq_true rfl) rfl dX3_placeNew_38 ?_
      refine q_istore_n (pc := 41) (lv' := [(2, .int r3), (0, .ref (gad G 31)), (1, .int a1)]) C dX3_placeNew_41 rfl (by decide) rfl ?_
      refine q_iload_n (pc := 42) C dX3_placeNew_42 rfl 0 rfl ?_
      refine q_iconst (pc := 43) (v := (-1 : Int32)) C dX3_placeNew_43 (by decide) ?_
      refine q_icmp_ne (pc := 44) (tgt := 52) C dX3_placeNew_44 (by decide) (fun c5 => ?_) (fun c5 => ?_)
      · replace hm := hm_f c5 hm
        refine q_aload_n (pc := 52) C dX3_placeNew_52 rfl 1 rfl ?_
        refine q_iload_n (pc := 53) C dX3_placeNew_53 rfl 2 rfl ?_
        refine q_iload_n (pc := 54) C dX3_placeNew_54 rfl 0 rfl ?_
        obtain ⟨S9, h9, hm⟩ := o1_some hm
        refine q_callU (pc := 55) (k := 31) (As := [.int a1, .int r3]) (rest := []) (T := TX3) (owner := "Tessera$Store") (x := ⟨"Tessera$Marking", "put", "(II)V"⟩) C (c_St_put_31 hi h9) (by decide) (ce_31 _ _ _) (ci := 3) rfl (Or.inl rfl) tw_478 tw_479 tw_297 tw_480 tw_62 tw_298 (nA := 2) (by decide +kernel) rfl (by decide) (Nat.le_of_ble_eq_true rfl) rfl dX3_placeNew_55 ?_
        refine q_aload_n (pc := 58) C dX3_placeNew_58 rfl 1 rfl ?_
        refine q_iload_n (pc := 59) C dX3_placeNew_59 rfl 2 rfl ?_
        refine q_aload_n (pc := 60) C dX3_placeNew_60 rfl 1 rfl ?_
        refine q_get (pc := 61) (T := TX3) (v := .int (S9 31 10)) C (by decide) (ce_31 _ _ _) (ci := 3) rfl inlX3 (j := 10) (by decide) rfl tw_159 (Or.inl rfl) dX3_placeNew_61 ?_
        refine q_if_eq (pc := 64) (tgt := 71) C dX3_placeNew_64 (by decide) (fun c6 => ?_) (fun c6 => ?_)
        · replace hm := hm_t c6 hm
          refine q_iconst (pc := 71) (v := (0 : Int32)) C dX3_placeNew_71 (by decide) ?_
          obtain ⟨S10, h10, hm⟩ := o1_some hm
          refine q_callV (pc := 72) (k := 31) (As := [.int a1, .int (0 : Int32)]) (rest := []) (T := TX3) C (c_Mar_paint hi h10) (by decide) (ce_31 _ _ _) (ci := 3) rfl tw_439 tw_440 tw_441 tw_19 tw_442 (nA := 2) (by decide +kernel) rfl (by decide) (Nat.le_of_ble_eq_true rfl) rfl dX3_placeNew_72 ?_
          cases hm
          exact q_vret (pc := 75) C dX3_placeNew_75
        · replace hm := hm_f c6 hm
          refine q_iconst (pc := 67) (v := (2 : Int32)) C dX3_placeNew_67 (by decide) ?_
          refine q_goto (pc := 68) (tgt := 72) C dX3_placeNew_68 (by decide) ?_
          obtain ⟨S11, h11, hm⟩ := o1_some hm
          refine q_callV (pc := 72) (k := 31) (As := [.int a1, .int (2 : Int32)]) (rest := []) (T := TX3) C (c_Mar_paint hi h11) (by decide) (ce_31 _ _ _) (ci := 3) rfl tw_439 tw_440 tw_441 tw_19 tw_442 (nA := 2) (by decide +kernel) rfl (by decide) (Nat.le_of_ble_eq_true rfl) rfl dX3_placeNew_72 ?_
          cases hm
          exact q_vret (pc := 75) C dX3_placeNew_75
      · replace hm := hm_t c5 hm
        refine q_aload_n (pc := 47) C dX3_placeNew_47 rfl 1 rfl ?_
        obtain ⟨S12, h12, hm⟩ := o1_some hm
        refine q_callU (pc := 48) (k := 31) (As := []) (rest := []) (T := TX3) (owner := "Tessera$Store") (x := ⟨"Tessera$Marking", "breakDown", "()V"⟩) C (c_St_breakDown_Mar_31 hi h12) (by decide) (ce_31 _ _ _) (ci := 3) rfl (Or.inl rfl) tw_475 tw_476 tw_306 tw_477 tw_62 tw_307 (nA := 0) (by decide +kernel) rfl (by decide) (Nat.le_of_ble_eq_true rfl) rfl dX3_placeNew_48 ?_
        cases hm
        exact q_vret (pc := 51) C dX3_placeNew_51
  · replace hm := hm_t c1 hm
    refine q_aload_n (pc := 15) C dX3_placeNew_15 rfl 1 rfl ?_
    obtain ⟨r4, S13, h13, hm⟩ := ob_some hm
    refine q_callV (pc := 16) (k := 31) (As := []) (rest := []) (T := TX3) C (c_Mar_collectNow hi h13) (by decide) (ce_31 _ _ _) (ci := 3) rfl tw_471 tw_472 tw_473 tw_19 tw_474 (nA := 0) (by decide +kernel) rfl (by decide) (Nat.le_of_ble_eq_true rfl) rfl dX3_placeNew_16 ?_
    refine q_pop (pc := 19) C dX3_placeNew_19 rfl ?_
    refine q_aload_n (pc := 20) C dX3_placeNew_20 rfl 1 rfl ?_
    refine q_iload_n (pc := 21) C dX3_placeNew_21 rfl 2 rfl ?_
    obtain ⟨r5, S14, h14, hm⟩ := ob_some hm
    refine q_callU (pc := 22) (k := 31) (As := [.int a1]) (rest := []) (T := TX3) (owner := "Tessera$Scattered") (x := ⟨"Tessera$Marking", "firstPlaceFor", "(I)I"⟩) C (c_Sc_firstPlaceFor_31 hi h14) (by decide) (ce_31 _ _ _) (ci := 3) rfl (Or.inl rfl) tw_468 tw_469 tw_316 tw_470 tw_78 tw_317 (nA := 1) (by decide +kernel) rfl (by decide) (Nat.le_of_ble_eq_true rfl) rfl dX3_placeNew_22 ?_
    refine q_istore_n (pc := 25) (lv' := [(2, .int r5), (0, .ref (gad G 31)), (1, .int a1)]) C dX3_placeNew_25 rfl (by decide) rfl ?_
    refine q_iload_n (pc := 26) C dX3_placeNew_26 rfl 0 rfl ?_
    refine q_iconst (pc := 27) (v := (-1 : Int32)) C dX3_placeNew_27 (by decide) ?_
    refine q_icmp_ne (pc := 28) (tgt := 42) C dX3_placeNew_28 (by decide) (fun c7 => ?_) (fun c7 => ?_)
    · replace hm := hm_f c7 hm
      refine q_iload_n (pc := 42) C dX3_placeNew_42 rfl 0 rfl ?_
      refine q_iconst (pc := 43) (v := (-1 : Int32)) C dX3_placeNew_43 (by decide) ?_
      refine q_icmp_ne (pc := 44) (tgt := 52) C dX3_placeNew_44 (by decide) (fun c8 => ?_) (fun c8 => ?_)
      · replace hm := hm_f c8 hm
        refine q_aload_n (pc := 52) C dX3_placeNew_52 rfl 1 rfl ?_
        refine q_iload_n (pc := 53) C dX3_placeNew_53 rfl 2 rfl ?_
        refine q_iload_n (pc := 54) C dX3_placeNew_54 rfl 0 rfl ?_
        obtain ⟨S15, h15, hm⟩ := o1_some hm
        refine q_callU (pc := 55) (k := 31) (As := [.int a1, .int r5]) (rest := []) (T := TX3) (owner := "Tessera$Store") (x := ⟨"Tessera$Marking", "put", "(II)V"⟩) C (c_St_put_31 hi h15) (by decide) (ce_31 _ _ _) (ci := 3) rfl (Or.inl rfl) tw_478 tw_479 tw_297 tw_480 tw_62 tw_298 (nA := 2) (by decide +kernel) rfl (by decide) (Nat.le_of_ble_eq_true rfl) rfl dX3_placeNew_55 ?_
        refine q_aload_n (pc := 58) C dX3_placeNew_58 rfl 1 rfl ?_
        refine q_iload_n (pc := 59) C dX3_placeNew_59 rfl 2 rfl ?_
        refine q_aload_n (pc := 60) C dX3_placeNew_60 rfl 1 rfl ?_
        refine q_get (pc := 61) (T := TX3) (v := .int (S15 31 10)) C (by decide) (ce_31 _ _ _) (ci := 3) rfl inlX3 (j := 10) (by decide) rfl tw_159 (Or.inl rfl) dX3_placeNew_61 ?_
        refine q_if_eq (pc := 64) (tgt := 71) C dX3_placeNew_64 (by decide) (fun c9 => ?_) (fun c9 => ?_)
        · replace hm := hm_t c9 hm
          refine q_iconst (pc := 71) (v := (0 : Int32)) C dX3_placeNew_71 (by decide) ?_
          obtain ⟨S16, h16, hm⟩ := o1_some hm
          refine q_callV (pc := 72) (k := 31) (As := [.int a1, .int (0 : Int32)]) (rest := []) (T := TX3) C (c_Mar_paint hi h16) (by decide) (ce_31 _ _ _) (ci := 3) rfl tw_439 tw_440 tw_441 tw_19 tw_442 (nA := 2) (by decide +kernel) rfl (by decide) (Nat.le_of_ble_eq_true rfl) rfl dX3_placeNew_72 ?_
          cases hm
          exact q_vret (pc := 75) C dX3_placeNew_75
        · replace hm := hm_f c9 hm
          refine q_iconst (pc := 67) (v := (2 : Int32)) C dX3_placeNew_67 (by decide) ?_
          refine q_goto (pc := 68) (tgt := 72) C dX3_placeNew_68 (by decide) ?_
          obtain ⟨S17, h17, hm⟩ := o1_some hm
          refine q_callV (pc := 72) (k := 31) (As := [.int a1, .int (2 : Int32)]) (rest := []) (T := TX3) C (c_Mar_paint hi h17) (by decide) (ce_31 _ _ _) (ci := 3) rfl tw_439 tw_440 tw_441 tw_19 tw_442 (nA := 2) (by decide +kernel) rfl (by decide) (Nat.le_of_ble_eq_true rfl) rfl dX3_placeNew_72 ?_
          cases hm
          exact q_vret (pc := 75) C dX3_placeNew_75
      · replace hm := hm_t c8 hm
        refine q_aload_n (pc := 47) C dX3_placeNew_47 rfl 1 rfl ?_
        obtain ⟨S18, h18, hm⟩ := o1_some hm
        refine q_callU (pc := 48) (k := 31) (As := []) (rest := []) (T := TX3) (owner := "Tessera$Store") (x := ⟨"Tessera$Marking", "breakDown", "()V"⟩) C (c_St_breakDown_Mar_31 hi h18) (by decide) (ce_31 _ _ _) (ci := 3) rfl (Or.inl rfl) tw_475 tw_476 tw_306 tw_477 tw_62 tw_307 (nA := 0) (by decide +kernel) rfl (by decide) (Nat.le_of_ble_eq_true rfl) rfl dX3_placeNew_48 ?_
        cases hm
        exact q_vret (pc := 51) C dX3_placeNew_51
    · replace hm := hm_t c7 hm
      refine q_aload_n (pc := 31) C dX3_placeNew_31 rfl 1 rfl ?_
      obtain ⟨r6, S19, h19, hm⟩ := ob_some hm
      refine q_callV (pc := 32) (k := 31) (As := []) (rest := []) (T := TX3) C (c_Mar_collectNow hi h19) (by decide) (ce_31 _ _ _) (ci := 3) rfl tw_471 tw_472 tw_473 tw_19 tw_474 (nA := 0) (by decide +kernel) rfl (by decide) (Nat.le_of_ble_eq_true rfl) rfl dX3_placeNew_32 ?_
      refine q_pop (pc := 35) C dX3_placeNew_35 rfl ?_
      refine q_aload_n (pc := 36) C dX3_placeNew_36 rfl 1 rfl ?_
      refine q_iload_n (pc := 37) C dX3_placeNew_37 rfl 2 rfl ?_
      obtain ⟨r7, S20, h20, hm⟩ := ob_some hm
      refine q_callU (pc := 38) (k := 31) (As := [.int a1]) (rest := []) (T := TX3) (owner := "Tessera$Scattered") (x := ⟨"Tessera$Marking", "firstPlaceFor", "(I)I"⟩) C (c_Sc_firstPlaceFor_31 hi h20) (by decide) (ce_31 _ _ _) (ci := 3) rfl (Or.inl rfl) tw_468 tw_469 tw_316 tw_470 tw_78 tw_317 (nA := 1) (by decide +kernel) rfl (by decide) (Nat.le_of_ble_eq_true rfl) rfl dX3_placeNew_38 ?_
      refine q_istore_n (pc := 41) (lv' := [(2, .int r7), (0, .ref (gad G 31)), (1, .int a1)]) C dX3_placeNew_41 rfl (by decide) rfl ?_
      refine q_iload_n (pc := 42) C dX3_placeNew_42 rfl 0 rfl ?_
      refine q_iconst (pc := 43) (v := (-1 : Int32)) C dX3_placeNew_43 (by decide) ?_
      refine q_icmp_ne (pc := 44) (tgt := 52) C dX3_placeNew_44 (by decide) (fun c10 => ?_) (fun c10 => ?_)
      · replace hm := hm_f c10 hm
        refine q_aload_n (pc := 52) C dX3_placeNew_52 rfl 1 rfl ?_
        refine q_iload_n (pc := 53) C dX3_placeNew_53 rfl 2 rfl ?_
        refine q_iload_n (pc := 54) C dX3_placeNew_54 rfl 0 rfl ?_
        obtain ⟨S21, h21, hm⟩ := o1_some hm
        refine q_callU (pc := 55) (k := 31) (As := [.int a1, .int r7]) (rest := []) (T := TX3) (owner := "Tessera$Store") (x := ⟨"Tessera$Marking", "put", "(II)V"⟩) C (c_St_put_31 hi h21) (by decide) (ce_31 _ _ _) (ci := 3) rfl (Or.inl rfl) tw_478 tw_479 tw_297 tw_480 tw_62 tw_298 (nA := 2) (by decide +kernel) rfl (by decide) (Nat.le_of_ble_eq_true rfl) rfl dX3_placeNew_55 ?_
        refine q_aload_n (pc := 58) C dX3_placeNew_58 rfl 1 rfl ?_
        refine q_iload_n (pc := 59) C dX3_placeNew_59 rfl 2 rfl ?_
        refine q_aload_n (pc := 60) C dX3_placeNew_60 rfl 1 rfl ?_
        refine q_get (pc := 61) (T := TX3) (v := .int (S21 31 10)) C (by decide) (ce_31 _ _ _) (ci := 3) rfl inlX3 (j := 10) (by decide) rfl tw_159 (Or.inl rfl) dX3_placeNew_61 ?_
        refine q_if_eq (pc := 64) (tgt := 71) C dX3_placeNew_64 (by decide) (fun c11 => ?_) (fun c11 => ?_)
        · replace hm := hm_t c11 hm
          refine q_iconst (pc := 71) (v := (0 : Int32)) C dX3_placeNew_71 (by decide) ?_
          obtain ⟨S22, h22, hm⟩ := o1_some hm
          refine q_callV (pc := 72) (k := 31) (As := [.int a1, .int (0 : Int32)]) (rest := []) (T := TX3) C (c_Mar_paint hi h22) (by decide) (ce_31 _ _ _) (ci := 3) rfl tw_439 tw_440 tw_441 tw_19 tw_442 (nA := 2) (by decide +kernel) rfl (by decide) (Nat.le_of_ble_eq_true rfl) rfl dX3_placeNew_72 ?_
          cases hm
          exact q_vret (pc := 75) C dX3_placeNew_75
        · replace hm := hm_f c11 hm
          refine q_iconst (pc := 67) (v := (2 : Int32)) C dX3_placeNew_67 (by decide) ?_
          refine q_goto (pc := 68) (tgt := 72) C dX3_placeNew_68 (by decide) ?_
          obtain ⟨S23, h23, hm⟩ := o1_some hm
          refine q_callV (pc := 72) (k := 31) (As := [.int a1, .int (2 : Int32)]) (rest := []) (T := TX3) C (c_Mar_paint hi h23) (by decide) (ce_31 _ _ _) (ci := 3) rfl tw_439 tw_440 tw_441 tw_19 tw_442 (nA := 2) (by decide +kernel) rfl (by decide) (Nat.le_of_ble_eq_true rfl) rfl dX3_placeNew_72 ?_
          cases hm
          exact q_vret (pc := 75) C dX3_placeNew_75
      · replace hm := hm_t c10 hm
        refine q_aload_n (pc := 47) C dX3_placeNew_47 rfl 1 rfl ?_
        obtain ⟨S24, h24, hm⟩ := o1_some hm
        refine q_callU (pc := 48) (k := 31) (As := []) (rest := []) (T := TX3) (owner := "Tessera$Store") (x := ⟨"Tessera$Marking", "breakDown", "()V"⟩) C (c_St_breakDown_Mar_31 hi h24) (by decide) (ce_31 _ _ _) (ci := 3) rfl (Or.inl rfl) tw_475 tw_476 tw_306 tw_477 tw_62 tw_307 (nA := 0) (by decide +kernel) rfl (by decide) (Nat.le_of_ble_eq_true rfl) rfl dX3_placeNew_48 ?_
        cases hm
        exact q_vret (pc := 51) C dX3_placeNew_51
set_option maxRecDepth 100000 in
theorem c_Nur_freeTogether {G : Gx} (hi : qinj (gad G)) {S : St}  {zr : Int32} (hm : m_Nur_freeTogether S  = some zr) : QMet G yX4_freeTogether cX4_freeTogether 1 (some .int) 0 0 [.ref (gad G 18)] S (some (.int zr)) S := by
  refine q_entry (by decide +kernel) rfl hi (Nat.le_of_ble_eq_true rfl) ?_
  intro X C
  refine q_lv (lv' := [(0, .ref (gad G 18))]) [0] rfl ?_
  unfold m_Nur_freeTogether at hm
  refine q_aload_n (pc := 0) C dX4_freeTogether_0 rfl 0 rfl ?_
  refine q_get (pc := 1) (T := TX4) (v := .int (S 18 1)) C (by decide) (ce_18 _ _ _) (ci := 4) rfl inlX4 (j := 1) (by decide) rfl tw_166 (Or.inr tw_167) dX4_freeTogether_1 ?_
  refine q_iconst (pc := 4) (v := (4 : Int32)) C dX4_freeTogether_4 (by decide) ?_
  refine q_idiv (pc := 5) C dX4_freeTogether_5 (by decide) ?_
  refine q_aload_n (pc := 6) C dX4_freeTogether_6 rfl 0 rfl ?_
  refine q_get (pc := 7) (T := TX4) (v := .int (S 18 15)) C (by decide) (ce_18 _ _ _) (ci := 4) rfl inlX4 (j := 15) (by decide) rfl tw_165 (Or.inl rfl) dX4_freeTogether_7 ?_
  refine q_isub (pc := 10) C dX4_freeTogether_10 ?_
  cases hm
  exact q_iret (pc := 11) C dX4_freeTogether_11
set_option maxRecDepth 100000 in
theorem c_Row_add_21 {G : Gx} (hi : qinj (gad G)) {S : St} {a1 : Int32} {zS : St} (hm : m_Row_add 21 S a1 = some zS) : QMet G yX5_add cX5_add 2 none 0 0 [.ref (gad G 21), .int a1] S none zS := by
  refine q_entry (by decide +kernel) rfl hi (Nat.le_of_ble_eq_true rfl) ?_
  intro X C
  refine q_lv (lv' := [(0, .ref (gad G 21)), (1, .int a1)]) [0, 1] rfl ?_
  unfold m_Row_add at hm
  refine q_iload_n (pc := 0) C dX5_add_0 rfl 1 rfl ?_
  refine q_if_lt (pc := 1) (tgt := 28) C dX5_add_1 (by decide) (fun c1 => ?_) (fun c1 => ?_)
  · replace hm := hm_t c1 hm
    cases hm
    exact q_vret (pc := 28) C dX5_add_28
  · replace hm := hm_f c1 hm
    refine q_iload_n (pc := 4) C dX5_add_4 rfl 1 rfl ?_
    refine q_bipush (pc := 5) (v := (80 : Int32)) C dX5_add_5 (by decide) ?_
    refine q_icmp_ge (pc := 7) (tgt := 28) C dX5_add_7 (by decide) (fun c2 => ?_) (fun c2 => ?_)
    · replace hm := hm_t c2 hm
      cases hm
      exact q_vret (pc := 28) C dX5_add_28
    · replace hm := hm_f c2 hm
      refine q_aload_n (pc := 10) C dX5_add_10 rfl 0 rfl ?_
      refine q_get (pc := 11) (T := TX5) (v := .ref (gad G 23)) C (by decide) (ce_21 _ _ _) (ci := 5) rfl inlX5 (j := 1) (by decide) rfl tw_50 (Or.inl rfl) dX5_add_11 ?_
      refine q_iload_n (pc := 14) C dX5_add_14 rfl 1 rfl ?_
      obtain ⟨b1, hm⟩ := oi_some hm
      refine q_zald (pc := 15) C (by decide) (ce_23 _ _ _) (ty_23 _) b1 dX5_add_15 ?_
      refine q_if_ne (pc := 16) (tgt := 28) C dX5_add_16 (by decide) (fun c3 => ?_) (fun c3 => ?_)
      · replace hm := hm_f c3 hm
        cases hm
        exact q_vret (pc := 28) C dX5_add_28
      · replace hm := hm_t c3 hm
        refine q_aload_n (pc := 19) C dX5_add_19 rfl 0 rfl ?_
        refine q_get (pc := 20) (T := TX5) (v := .int (S 21 2)) C (by decide) (ce_21 _ _ _) (ci := 5) rfl inlX5 (j := 2) (by decide) rfl tw_127 (Or.inl rfl) dX5_add_20 ?_
        refine q_bipush (pc := 23) (v := (80 : Int32)) C dX5_add_23 (by decide) ?_
        refine q_icmp_lt (pc := 25) (tgt := 29) C dX5_add_25 (by decide) (fun c4 => ?_) (fun c4 => ?_)
        · replace hm := hm_t c4 hm
          refine q_aload_n (pc := 29) C dX5_add_29 rfl 0 rfl ?_
          refine q_get (pc := 30) (T := TX5) (v := .ref (gad G 23)) C (by decide) (ce_21 _ _ _) (ci := 5) rfl inlX5 (j := 1) (by decide) rfl tw_50 (Or.inl rfl) dX5_add_30 ?_
          refine q_iload_n (pc := 33) C dX5_add_33 rfl 1 rfl ?_
          refine q_iconst (pc := 34) (v := (1 : Int32)) C dX5_add_34 (by decide) ?_
          obtain ⟨b2, hm⟩ := oi_some hm
          refine q_zast1 (pc := 35) C (by decide) (fun _ => ce_23 _ _ _) (ty_23 _) b2 dX5_add_35 ?_
          refine q_aload_n (pc := 36) C dX5_add_36 rfl 0 rfl ?_
          refine q_get (pc := 37) (T := TX5) (v := .ref (gad G 22)) C (by decide) (ce_21 _ _ _) (ci := 5) rfl inlX5 (j := 0) (by decide) rfl tw_49 (Or.inl rfl) dX5_add_37 ?_
          refine q_aload_n (pc := 40) C dX5_add_40 rfl 0 rfl ?_
          refine q_get (pc := 41) (T := TX5) (v := .int (S 21 2)) C (by decide) (ce_21 _ _ _) (ci := 5) rfl inlX5 (j := 2) (by decide) rfl tw_127 (Or.inl rfl) dX5_add_41 ?_
          refine q_iload_n (pc := 44) C dX5_add_44 rfl 1 rfl ?_
          obtain ⟨b3, hm⟩ := oi_some hm
          refine q_iast (pc := 45) C (by decide) (fun _ => ce_22 _ _ _) (ty_22 _) b3 dX5_add_45 ?_
          refine q_aload_n (pc := 46) C dX5_add_46 rfl 0 rfl ?_
          refine q_dup (pc := 47) C dX5_add_47 rfl ?_
          refine q_get (pc := 48) (T := TX5) (v := .int (S 21 2)) C (by decide) (ce_21 _ _ _) (ci := 5) rfl inlX5 (j := 2) (by decide) rfl tw_127 (Or.inl rfl) dX5_add_48 ?_
          refine q_iconst (pc := 51) (v := (1 : Int32)) C dX5_add_51 (by decide) ?_
          refine q_iadd (pc := 52) C dX5_add_52 ?_
          refine q_put (pc := 53) (T := TX5) (ty := .int) C tyX5 tyX5_ok nmX5 (by decide) (ce_21 _ _ _) (pe_21_2 _ _ _ _) (ci := 5) rfl inlX5 (j := 2) (by decide) (Nat.le_of_ble_eq_true rfl) tw_127 (Or.inl rfl) rfl (by decide +kernel) rfl rfl dX5_add_53 ?_
          cases hm
          exact q_vret (pc := 56) C dX5_add_56
        · replace hm := hm_f c4 hm
          cases hm
          exact q_vret (pc := 28) C dX5_add_28
set_option maxRecDepth 100000 in
theorem c_St_put_18 {G : Gx} (hi : qinj (gad G)) {S : St} {a1 : Int32} {a2 : Int32} {zS : St} (hm : m_St_put 18 0 S a1 a2 = some zS) : QMet G yX7_put cX7_put 3 none 1 21 [.ref (gad G 18), .int a1, .int a2] S none zS := by
  refine q_entry (by decide +kernel) rfl hi (Nat.le_of_ble_eq_true rfl) ?_
  intro X C
  refine q_lv (lv' := [(0, .ref (gad G 18)), (1, .int a1), (2, .int a2)]) [0, 1, 2] rfl ?_
  unfold m_St_put at hm
  refine q_aload_n (pc := 0) C dX7_put_0 rfl 0 rfl ?_
  refine q_get (pc := 1) (T := TX4) (v := .ref (gad G 1)) C (by decide) (ce_18 _ _ _) (ci := 4) rfl inlX4 (j := 0) (by decide) rfl tw_67 (Or.inl rfl) dX7_put_1 ?_
  refine q_iload_n (pc := 4) C dX7_put_4 rfl 1 rfl ?_
  obtain ⟨r1, h1, hm⟩ := o1_some hm
  refine q_callV (pc := 5) (k := 1) (As := [.int a1]) (rest := []) (T := TX2) C (c_Gr_isThing hi h1) (by decide) (ce_1 _ _ _) (ci := 2) rfl tw_299 tw_300 tw_301 tw_13 tw_302 (nA := 1) (by decide +kernel) rfl (by decide) (Nat.le_of_ble_eq_true rfl) rfl dX7_put_5 ?_
  refine q_if_eq (pc := 8) (tgt := 25) C dX7_put_8 (by decide) (fun c1 => ?_) (fun c1 => ?_)
  · replace hm := hm_t c1 hm
    cases hm
    exact q_vret (pc := 25) C dX7_put_25
  · replace hm := hm_f c1 hm
    refine q_aload_n (pc := 11) C dX7_put_11 rfl 0 rfl ?_
    refine q_get (pc := 12) (T := TX4) (v := .ref (gad G 19)) C (by decide) (ce_18 _ _ _) (ci := 4) rfl inlX4 (j := 7) (by decide) rfl tw_65 (Or.inl rfl) dX7_put_12 ?_
    refine q_iload_n (pc := 15) C dX7_put_15 rfl 1 rfl ?_
    refine q_iconst (pc := 16) (v := (1 : Int32)) C dX7_put_16 (by decide) ?_
    obtain ⟨b1, hm⟩ := oi_some hm
    refine q_zast1 (pc := 17) C (by decide) (fun _ => ce_19 _ _ _) (ty_19 _) b1 dX7_put_17 ?_
    refine q_aload_n (pc := 18) C dX7_put_18 rfl 0 rfl ?_
    refine q_get (pc := 19) (T := TX4) (v := .ref (gad G 20)) C (by decide) (ce_18 _ _ _) (ci := 4) rfl inlX4 (j := 8) (by decide) rfl tw_66 (Or.inl rfl) dX7_put_19 ?_
    refine q_iload_n (pc := 22) C dX7_put_22 rfl 1 rfl ?_
    refine q_iload_n (pc := 23) C dX7_put_23 rfl 2 rfl ?_
    obtain ⟨b2, hm⟩ := oi_some hm
    refine q_iast (pc := 24) C (by decide) (fun _ => ce_20 _ _ _) (ty_20 _) b2 dX7_put_24 ?_
    cases hm
    exact q_vret (pc := 25) C dX7_put_25
set_option maxRecDepth 100000 in
theorem c_Nur_putYoung {G : Gx} (hi : qinj (gad G)) {S : St} {a1 : Int32} {a2 : Int32} {zS : St} (hm : m_Nur_putYoung S a1 a2 = some zS) : QMet G yX4_putYoung cX4_putYoung 3 none 2 43 [.ref (gad G 18), .int a1, .int a2] S none zS := by
  refine q_entry (by decide +kernel) rfl hi (Nat.le_of_ble_eq_true rfl) ?_
  intro X C
  refine q_lv (lv' := [(0, .ref (gad G 18)), (1, .int a1), (2, .int a2)]) [0, 1, 2] rfl ?_
  unfold m_Nur_putYoung at hm
  refine q_aload_n (pc := 0) C dX4_putYoung_0 rfl 0 rfl ?_
  refine q_get (pc := 1) (T := TX4) (v := .ref (gad G 1)) C (by decide) (ce_18 _ _ _) (ci := 4) rfl inlX4 (j := 0) (by decide) rfl tw_484 (Or.inr tw_485) dX4_putYoung_1 ?_
  refine q_iload_n (pc := 4) C dX4_putYoung_4 rfl 1 rfl ?_
  obtain ⟨r1, h1, hm⟩ := o1_some hm
  refine q_callV (pc := 5) (k := 1) (As := [.int a1]) (rest := []) (T := TX2) C (c_Gr_isThing hi h1) (by decide) (ce_1 _ _ _) (ci := 2) rfl tw_507 tw_300 tw_301 tw_13 tw_302 (nA := 1) (by decide +kernel) rfl (by decide) (Nat.le_of_ble_eq_true rfl) rfl dX4_putYoung_5 ?_
  refine q_if_eq (pc := 8) (tgt := 52) C dX4_putYoung_8 (by decide) (fun c1 => ?_) (fun c1 => ?_)
  · replace hm := hm_t c1 hm
    cases hm
    exact q_vret (pc := 52) C dX4_putYoung_52
  · replace hm := hm_f c1 hm
    refine q_aload_n (pc := 11) C dX4_putYoung_11 rfl 0 rfl ?_
    refine q_get (pc := 12) (T := TX4) (v := .ref (gad G 30)) C (by decide) (ce_18 _ _ _) (ci := 4) rfl inlX4 (j := 14) (by decide) rfl tw_58 (Or.inl rfl) dX4_putYoung_12 ?_
    refine q_iload_n (pc := 15) C dX4_putYoung_15 rfl 1 rfl ?_
    refine q_iload_n (pc := 16) C dX4_putYoung_16 rfl 2 rfl ?_
    obtain ⟨b1, hm⟩ := oi_some hm
    refine q_zast (pc := 17) C (by decide) (fun _ => ce_30 _ _ _) (ty_30 _) b1 dX4_putYoung_17 ?_
    refine q_aload_n (pc := 18) C dX4_putYoung_18 rfl 0 rfl ?_
    refine q_get (pc := 19) (T := TX4) (v := .ref (gad G 21)) C (by decide) (ce_18 _ _ _) (ci := 4) rfl inlX4 (j := 11) (by decide) rfl tw_55 (Or.inl rfl) dX4_putYoung_19 ?_
    refine q_iload_n (pc := 22) C dX4_putYoung_22 rfl 1 rfl ?_
    obtain ⟨S1, h2, hm⟩ := o1_some hm
    refine q_callV (pc := 23) (k := 21) (As := [.int a1]) (rest := []) (T := TX5) C (c_Row_add_21 hi h2) (by decide) (ce_21 _ _ _) (ci := 5) rfl tw_544 tw_267 tw_268 tw_43 tw_269 (nA := 1) (by decide +kernel) rfl (by decide) (Nat.le_of_ble_eq_true rfl) rfl dX4_putYoung_23 ?_
    refine q_aload_n (pc := 26) C dX4_putYoung_26 rfl 0 rfl ?_
    refine q_iload_n (pc := 27) C dX4_putYoung_27 rfl 1 rfl ?_
    refine q_aload_n (pc := 28) C dX4_putYoung_28 rfl 0 rfl ?_
    refine q_get (pc := 29) (T := TX4) (v := .int (S1 18 15)) C (by decide) (ce_18 _ _ _) (ci := 4) rfl inlX4 (j := 15) (by decide) rfl tw_165 (Or.inl rfl) dX4_putYoung_29 ?_
    obtain ⟨S2, h3, hm⟩ := o1_some hm
    refine q_callU (pc := 32) (k := 18) (As := [.int a1, .int (S1 18 15)]) (rest := []) (T := TX4) (owner := "Tessera$Store") (x := ⟨"Tessera$Nursery", "put", "(II)V"⟩) C (c_St_put_18 hi h3) (by decide) (ce_18 _ _ _) (ci := 4) rfl (Or.inl rfl) tw_554 tw_555 tw_297 tw_556 tw_62 tw_298 (nA := 2) (by decide +kernel) rfl (by decide) (Nat.le_of_ble_eq_true rfl) rfl dX4_putYoung_32 ?_
    refine q_aload_n (pc := 35) C dX4_putYoung_35 rfl 0 rfl ?_
    refine q_dup (pc := 36) C dX4_putYoung_36 rfl ?_
    refine q_get (pc := 37) (T := TX4) (v := .int (S2 18 15)) C (by decide) (ce_18 _ _ _) (ci := 4) rfl inlX4 (j := 15) (by decide) rfl tw_165 (Or.inl rfl) dX4_putYoung_37 ?_
    refine q_aload_n (pc := 40) C dX4_putYoung_40 rfl 0 rfl ?_
    refine q_get (pc := 41) (T := TX4) (v := .ref (gad G 1)) C (by decide) (ce_18 _ _ _) (ci := 4) rfl inlX4 (j := 0) (by decide) rfl tw_484 (Or.inr tw_485) dX4_putYoung_41 ?_
    refine q_iload_n (pc := 44) C dX4_putYoung_44 rfl 1 rfl ?_
    obtain ⟨r2, h4, hm⟩ := o1_some hm
    refine q_callV (pc := 45) (k := 1) (As := [.int a1]) (rest := [.int (S2 18 15), .ref (gad G 18)]) (T := TX2) C (c_Gr_wordsOf hi h4) (by decide) (ce_1 _ _ _) (ci := 2) rfl tw_488 tw_229 tw_230 tw_13 tw_231 (nA := 1) (by decide +kernel) rfl (by decide) (Nat.le_of_ble_eq_true rfl) rfl dX4_putYoung_45 ?_
    refine q_iadd (pc := 48) C dX4_putYoung_48 ?_
    refine q_put (pc := 49) (T := TX4) (ty := .int) C tyX4 tyX4_ok nmX4 (by decide) (ce_18 _ _ _) (pe_18_15 _ _ _ _) (ci := 4) rfl inlX4 (j := 15) (by decide) (Nat.le_of_ble_eq_true rfl) tw_165 (Or.inl rfl) rfl (by decide +kernel) rfl rfl dX4_putYoung_49 ?_
    cases hm
    exact q_vret (pc := 52) C dX4_putYoung_52
set_option maxRecDepth 100000 in
theorem c_St_has_18 {G : Gx} (hi : qinj (gad G)) {S : St} {a1 : Int32} {zr : Int32} (hm : m_St_has 18 0 S a1 = some zr) : QMet G yX7_has cX7_has 2 (some .boolean) 0 0 [.ref (gad G 18), .int a1] S (some (.int zr)) S := by
  refine q_entry (by decide +kernel) rfl hi (Nat.le_of_ble_eq_true rfl) ?_
  intro X C
  refine q_lv (lv' := [(0, .ref (gad G 18)), (1, .int a1)]) [0, 1] rfl ?_
  unfold m_St_has at hm
  refine q_iload_n (pc := 0) C dX7_has_0 rfl 1 rfl ?_
  refine q_if_lt (pc := 1) (tgt := 23) C dX7_has_1 (by decide) (fun c1 => ?_) (fun c1 => ?_)
  · replace hm := hm_t c1 hm
    refine q_iconst (pc := 23) (v := (0 : Int32)) C dX7_has_23 (by decide) ?_
    cases hm
    exact q_zret (pc := 24) C (by decide) dX7_has_24
  · replace hm := hm_f c1 hm
    refine q_iload_n (pc := 4) C dX7_has_4 rfl 1 rfl ?_
    refine q_bipush (pc := 5) (v := (80 : Int32)) C dX7_has_5 (by decide) ?_
    refine q_icmp_ge (pc := 7) (tgt := 23) C dX7_has_7 (by decide) (fun c2 => ?_) (fun c2 => ?_)
    · replace hm := hm_t c2 hm
      refine q_iconst (pc := 23) (v := (0 : Int32)) C dX7_has_23 (by decide) ?_
      cases hm
      exact q_zret (pc := 24) C (by decide) dX7_has_24
    · replace hm := hm_f c2 hm
      refine q_aload_n (pc := 10) C dX7_has_10 rfl 0 rfl ?_
      refine q_get (pc := 11) (T := TX4) (v := .ref (gad G 19)) C (by decide) (ce_18 _ _ _) (ci := 4) rfl inlX4 (j := 7) (by decide) rfl tw_65 (Or.inl rfl) dX7_has_11 ?_
      refine q_iload_n (pc := 14) C dX7_has_14 rfl 1 rfl ?_
      obtain ⟨b1, hm⟩ := oi_some hm
      refine q_zald (pc := 15) C (by decide) (ce_19 _ _ _) (ty_19 _) b1 dX7_has_15 ?_
      refine q_if_eq (pc := 16) (tgt := 23) C dX7_has_16 (by decide) (fun c3 => ?_) (fun c3 => ?_)
      · replace hm := hm_t c3 hm
        refine q_iconst (pc := 23) (v := (0 : Int32)) C dX7_has_23 (by decide) ?_
        cases hm
        exact q_zret (pc := 24) C (by decide) dX7_has_24
      · replace hm := hm_f c3 hm
        refine q_iconst (pc := 19) (v := (1 : Int32)) C dX7_has_19 (by decide) ?_
        refine q_goto (pc := 20) (tgt := 24) C dX7_has_20 (by decide) ?_
        cases hm
        exact q_zret (pc := 24) C (by decide) dX7_has_24
set_option maxRecDepth 100000 in
theorem c_Gr_isReached {G : Gx} (hi : qinj (gad G)) {S : St} {a1 : Int32} {zr : Int32} (hm : m_Gr_isReached S a1 = some zr) : QMet G yX2_isReached cX2_isReached 2 (some .boolean) 0 0 [.ref (gad G 1), .int a1] S (some (.int zr)) S := by
  refine q_entry (by decide +kernel) rfl hi (Nat.le_of_ble_eq_true rfl) ?_
  intro X C
  refine q_lv (lv' := [(0, .ref (gad G 1)), (1, .int a1)]) [0, 1] rfl ?_
  unfold m_Gr_isReached at hm
  refine q_iload_n (pc := 0) C dX2_isReached_0 rfl 1 rfl ?_
  refine q_if_lt (pc := 1) (tgt := 26) C dX2_isReached_1 (by decide) (fun c1 => ?_) (fun c1 => ?_)
  · replace hm := hm_t c1 hm
    refine q_iconst (pc := 26) (v := (0 : Int32)) C dX2_isReached_26 (by decide) ?_
    cases hm
    exact q_zret (pc := 27) C (by decide) dX2_isReached_27
  · replace hm := hm_f c1 hm
    refine q_iload_n (pc := 4) C dX2_isReached_4 rfl 1 rfl ?_
    refine q_aload_n (pc := 5) C dX2_isReached_5 rfl 0 rfl ?_
    refine q_get (pc := 6) (T := TX2) (v := .int (S 1 6)) C (by decide) (ce_1 _ _ _) (ci := 2) rfl inlX2 (j := 6) (by decide) rfl tw_118 (Or.inl rfl) dX2_isReached_6 ?_
    refine q_icmp_ge (pc := 9) (tgt := 26) C dX2_isReached_9 (by decide) (fun c2 => ?_) (fun c2 => ?_)
    · replace hm := hm_t c2 hm
      refine q_iconst (pc := 26) (v := (0 : Int32)) C dX2_isReached_26 (by decide) ?_
      cases hm
      exact q_zret (pc := 27) C (by decide) dX2_isReached_27
    · replace hm := hm_f c2 hm
      refine q_aload_n (pc := 12) C dX2_isReached_12 rfl 0 rfl ?_
      refine q_get (pc := 13) (T := TX2) (v := .ref (gad G 5)) C (by decide) (ce_1 _ _ _) (ci := 2) rfl inlX2 (j := 3) (by decide) rfl tw_40 (Or.inl rfl) dX2_isReached_13 ?_
      refine q_iload_n (pc := 16) C dX2_isReached_16 rfl 1 rfl ?_
      obtain ⟨b1, hm⟩ := oi_some hm
      refine q_iald (pc := 17) C (by decide) (ce_5 _ _ _) (ty_5 _) b1 dX2_isReached_17 ?_
      refine q_iconst (pc := 18) (v := (-1 : Int32)) C dX2_isReached_18 (by decide) ?_
      refine q_icmp_eq (pc := 19) (tgt := 26) C dX2_isReached_19 (by decide) (fun c3 => ?_) (fun c3 => ?_)
      · replace hm := hm_t c3 hm
        refine q_iconst (pc := 26) (v := (0 : Int32)) C dX2_isReached_26 (by decide) ?_
        cases hm
        exact q_zret (pc := 27) C (by decide) dX2_isReached_27
      · replace hm := hm_f c3 hm
        refine q_iconst (pc := 22) (v := (1 : Int32)) C dX2_isReached_22 (by decide) ?_
        refine q_goto (pc := 23) (tgt := 27) C dX2_isReached_23 (by decide) ?_
        cases hm
        exact q_zret (pc := 27) C (by decide) dX2_isReached_27
set_option maxRecDepth 100000 in
theorem w_St_wordsReached_18_L4 {G : Gx} (hi : qinj (gad G)) {X : Cx} (C : QC G X cX7_wordsReached 3 RX7 1 21 (some .int)) {Q : State → Prop} : ∀ (n : Nat) (S : St) (v1 : Int32) (v2 : Int32) (x1 : Int32), m_St_wordsReached_L4 18 0 n S v1 v2 = some x1 → QW G X 3 Q 55 [(1, .int x1)] [] S → QW G X 3 Q 4 [(0, .ref (gad G 18)), (1, .int v1), (2, .int v2)] [] S := by
  intro n
  induction n with
  | zero =>
    intro S v1 v2 x1 hm kk
    rw [m_St_wordsReached_L4] at hm
    cases hm
  | succ n ih =>
    intro S v1 v2 x1 hm kk
    rw [m_St_wordsReached_L4] at hm
    refine q_iload_n (pc := 4) C dX7_wordsReached_4 rfl 2 rfl ?_
    refine q_aload_n (pc := 5) C dX7_wordsReached_5 rfl 0 rfl ?_
    refine q_get (pc := 6) (T := TX4) (v := .ref (gad G 1)) C (by decide) (ce_18 _ _ _) (ci := 4) rfl inlX4 (j := 0) (by decide) rfl tw_67 (Or.inl rfl) dX7_wordsReached_6 ?_
    refine q_get (pc := 9) (T := TX2) (v := .int (S 1 6)) C (by decide) (ce_1 _ _ _) (ci := 2) rfl inlX2 (j := 6) (by decide) rfl tw_252 (Or.inl rfl) dX7_wordsReached_9 ?_
    refine q_icmp_ge (pc := 12) (tgt := 55) C dX7_wordsReached_12 (by decide) (fun c1 => ?_) (fun c1 => ?_)
    · replace hm := hm_t c1 hm
      cases hm
      refine q_lv (lv' := [(1, .int v1)]) [1] rfl ?_
      exact kk
    · replace hm := hm_f c1 hm
      refine q_iload_n (pc := 15) C dX7_wordsReached_15 rfl 1 rfl ?_
      refine q_aload_n (pc := 16) C dX7_wordsReached_16 rfl 0 rfl ?_
      refine q_iload_n (pc := 17) C dX7_wordsReached_17 rfl 2 rfl ?_
      obtain ⟨r1, h1, hm⟩ := o1_some hm
      refine q_callU (pc := 18) (k := 18) (As := [.int v2]) (rest := [.int v1]) (T := TX4) (owner := "Tessera$Store") (x := ⟨"Tessera$Store", "has", "(I)Z"⟩) C (c_St_has_18 hi h1) (by decide) (ce_18 _ _ _) (ci := 4) rfl (Or.inl rfl) tw_253 tw_254 tw_256 tw_260 tw_62 tw_257 (nA := 1) (by decide +kernel) rfl (by decide) (Nat.le_of_ble_eq_true rfl) rfl dX7_wordsReached_18 ?_
      refine q_if_eq (pc := 21) (tgt := 46) C dX7_wordsReached_21 (by decide) (fun c2 => ?_) (fun c2 => ?_)
      · replace hm := hm_t c2 hm
        refine q_iconst (pc := 46) (v := (0 : Int32)) C dX7_wordsReached_46 (by decide) ?_
        refine q_iadd (pc := 47) C dX7_wordsReached_47 ?_
        refine q_istore_n (pc := 48) (lv' := [(1, .int (v1 + (0 : Int32))), (0, .ref (gad G 18)), (2, .int v2)]) C dX7_wordsReached_48 rfl (by decide) rfl ?_
        refine q_iinc (pc := 49) (k := 2) (v := (v2 + (1 : Int32))) (lv' := [(2, .int (v2 + (1 : Int32))), (1, .int (v1 + (0 : Int32))), (0, .ref (gad G 18))]) C dX7_wordsReached_49 rfl rfl (by decide) rfl ?_
        refine q_goto (pc := 52) (tgt := 4) C dX7_wordsReached_52 (by decide) ?_
        refine q_lv (lv' := [(0, .ref (gad G 18)), (1, .int (v1 + (0 : Int32))), (2, .int (v2 + (1 : Int32)))]) [2, 1, 0] rfl ?_
        exact ih _ _ _ _ hm kk
      · replace hm := hm_f c2 hm
        refine q_aload_n (pc := 24) C dX7_wordsReached_24 rfl 0 rfl ?_
        refine q_get (pc := 25) (T := TX4) (v := .ref (gad G 1)) C (by decide) (ce_18 _ _ _) (ci := 4) rfl inlX4 (j := 0) (by decide) rfl tw_67 (Or.inl rfl) dX7_wordsReached_25 ?_
        refine q_iload_n (pc := 28) C dX7_wordsReached_28 rfl 2 rfl ?_
        obtain ⟨r2, h2, hm⟩ := o1_some hm
        refine q_callV (pc := 29) (k := 1) (As := [.int v2]) (rest := [.int v1]) (T := TX2) C (c_Gr_isReached hi h2) (by decide) (ce_1 _ _ _) (ci := 2) rfl tw_525 tw_526 tw_527 tw_13 tw_528 (nA := 1) (by decide +kernel) rfl (by decide) (Nat.le_of_ble_eq_true rfl) rfl dX7_wordsReached_29 ?_
        refine q_if_eq (pc := 32) (tgt := 46) C dX7_wordsReached_32 (by decide) (fun c3 => ?_) (fun c3 => ?_)
        · replace hm := hm_t c3 hm
          refine q_iconst (pc := 46) (v := (0 : Int32)) C dX7_wordsReached_46 (by decide) ?_
          refine q_iadd (pc := 47) C dX7_wordsReached_47 ?_
          refine q_istore_n (pc := 48) (lv' := [(1, .int (v1 + (0 : Int32))), (0, .ref (gad G 18)), (2, .int v2)]) C dX7_wordsReached_48 rfl (by decide) rfl ?_
          refine q_iinc (pc := 49) (k := 2) (v := (v2 + (1 : Int32))) (lv' := [(2, .int (v2 + (1 : Int32))), (1, .int (v1 + (0 : Int32))), (0, .ref (gad G 18))]) C dX7_wordsReached_49 rfl rfl (by decide) rfl ?_
          refine q_goto (pc := 52) (tgt := 4) C dX7_wordsReached_52 (by decide) ?_
          refine q_lv (lv' := [(0, .ref (gad G 18)), (1, .int (v1 + (0 : Int32))), (2, .int (v2 + (1 : Int32)))]) [2, 1, 0] rfl ?_
          exact ih _ _ _ _ hm kk
        · replace hm := hm_f c3 hm
          refine q_aload_n (pc := 35) C dX7_wordsReached_35 rfl 0 rfl ?_
          refine q_get (pc := 36) (T := TX4) (v := .ref (gad G 1)) C (by decide) (ce_18 _ _ _) (ci := 4) rfl inlX4 (j := 0) (by decide) rfl tw_67 (Or.inl rfl) dX7_wordsReached_36 ?_
          refine q_iload_n (pc := 39) C dX7_wordsReached_39 rfl 2 rfl ?_
          obtain ⟨r3, h3, hm⟩ := o1_some hm
          refine q_callV (pc := 40) (k := 1) (As := [.int v2]) (rest := [.int v1]) (T := TX2) C (c_Gr_wordsOf hi h3) (by decide) (ce_1 _ _ _) (ci := 2) rfl tw_416 tw_229 tw_230 tw_13 tw_231 (nA := 1) (by decide +kernel) rfl (by decide) (Nat.le_of_ble_eq_true rfl) rfl dX7_wordsReached_40 ?_
          refine q_goto (pc := 43) (tgt := 47) C dX7_wordsReached_43 (by decide) ?_
          refine q_iadd (pc := 47) C dX7_wordsReached_47 ?_
          refine q_istore_n (pc := 48) (lv' := [(1, .int (v1 + r3)), (0, .ref (gad G 18)), (2, .int v2)]) C dX7_wordsReached_48 rfl (by decide) rfl ?_
          refine q_iinc (pc := 49) (k := 2) (v := (v2 + (1 : Int32))) (lv' := [(2, .int (v2 + (1 : Int32))), (1, .int (v1 + r3)), (0, .ref (gad G 18))]) C dX7_wordsReached_49 rfl rfl (by decide) rfl ?_
          refine q_goto (pc := 52) (tgt := 4) C dX7_wordsReached_52 (by decide) ?_
          refine q_lv (lv' := [(0, .ref (gad G 18)), (1, .int (v1 + r3)), (2, .int (v2 + (1 : Int32)))]) [2, 1, 0] rfl ?_
          exact ih _ _ _ _ hm kk
set_option maxRecDepth 100000 in
theorem c_St_wordsReached_18 {G : Gx} (hi : qinj (gad G)) {S : St}  {zr : Int32} (hm : m_St_wordsReached 18 0 S  = some zr) : QMet G yX7_wordsReached cX7_wordsReached 3 (some .int) 1 21 [.ref (gad G 18)] S (some (.int zr)) S := by
  refine q_entry (by decide +kernel) rfl hi (Nat.le_of_ble_eq_true rfl) ?_
  intro X C
  refine q_lv (lv' := [(0, .ref (gad G 18))]) [0] rfl ?_
  unfold m_St_wordsReached at hm
  refine q_iconst (pc := 0) (v := (0 : Int32)) C dX7_wordsReached_0 (by decide) ?_
  refine q_istore_n (pc := 1) (lv' := [(1, .int (0 : Int32)), (0, .ref (gad G 18))]) C dX7_wordsReached_1 rfl (by decide) rfl ?_
  refine q_iconst (pc := 2) (v := (0 : Int32)) C dX7_wordsReached_2 (by decide) ?_
  refine q_istore_n (pc := 3) (lv' := [(2, .int (0 : Int32)), (1, .int (0 : Int32)), (0, .ref (gad G 18))]) C dX7_wordsReached_3 rfl (by decide) rfl ?_
  refine q_lv (lv' := [(0, .ref (gad G 18)), (1, .int (0 : Int32)), (2, .int (0 : Int32))]) [2, 1, 0] rfl ?_
  obtain ⟨y1, h1, hm⟩ := o1_some hm
  refine w_St_wordsReached_18_L4 hi C 200 _ _ _ _ h1 ?_
  refine q_iload_n (pc := 55) C dX7_wordsReached_55 rfl 0 rfl ?_
  cases hm
  exact q_iret (pc := 56) C dX7_wordsReached_56
set_option maxRecDepth 100000 in
theorem c_Nur_greatFits {G : Gx} (hi : qinj (gad G)) {S : St}  {zr : Int32} (hm : m_Nur_greatFits S  = some zr) : QMet G yX4_greatFits cX4_greatFits 1 (some .boolean) 2 43 [.ref (gad G 18)] S (some (.int zr)) S := by
  refine q_entry (by decide +kernel) rfl hi (Nat.le_of_ble_eq_true rfl) ?_
  intro X C
  refine q_lv (lv' := [(0, .ref (gad G 18))]) [0] rfl ?_
  unfold m_Nur_greatFits at hm
  refine q_aload_n (pc := 0) C dX4_greatFits_0 rfl 0 rfl ?_
  obtain ⟨r1, h1, hm⟩ := o1_some hm
  refine q_callU (pc := 1) (k := 18) (As := []) (rest := []) (T := TX4) (owner := "Tessera$Store") (x := ⟨"Tessera$Nursery", "wordsReached", "()I"⟩) C (c_St_wordsReached_18 hi h1) (by decide) (ce_18 _ _ _) (ci := 4) rfl (Or.inl rfl) tw_520 tw_521 tw_523 tw_522 tw_62 tw_524 (nA := 0) (by decide +kernel) rfl (by decide) (Nat.le_of_ble_eq_true rfl) rfl dX4_greatFits_1 ?_
  refine q_aload_n (pc := 4) C dX4_greatFits_4 rfl 0 rfl ?_
  refine q_get (pc := 5) (T := TX4) (v := .int (S 18 1)) C (by decide) (ce_18 _ _ _) (ci := 4) rfl inlX4 (j := 1) (by decide) rfl tw_166 (Or.inr tw_167) dX4_greatFits_5 ?_
  refine q_aload_n (pc := 8) C dX4_greatFits_8 rfl 0 rfl ?_
  refine q_get (pc := 9) (T := TX4) (v := .int (S 18 1)) C (by decide) (ce_18 _ _ _) (ci := 4) rfl inlX4 (j := 1) (by decide) rfl tw_166 (Or.inr tw_167) dX4_greatFits_9 ?_
  refine q_iconst (pc := 12) (v := (4 : Int32)) C dX4_greatFits_12 (by decide) ?_
  refine q_idiv (pc := 13) C dX4_greatFits_13 (by decide) ?_
  refine q_isub (pc := 14) C dX4_greatFits_14 ?_
  refine q_icmp_gt (pc := 15) (tgt := 22) C dX4_greatFits_15 (by decide) (fun c1 => ?_) (fun c1 => ?_)
  · replace hm := hm_t c1 hm
    refine q_iconst (pc := 22) (v := (0 : Int32)) C dX4_greatFits_22 (by decide) ?_
    cases hm
    exact q_zret (pc := 23) C (by decide) dX4_greatFits_23
  · replace hm := hm_f c1 hm
    refine q_iconst (pc := 18) (v := (1 : Int32)) C dX4_greatFits_18 (by decide) ?_
    refine q_goto (pc := 19) (tgt := 23) C dX4_greatFits_19 (by decide) ?_
    cases hm
    exact q_zret (pc := 23) C (by decide) dX4_greatFits_23
set_option maxRecDepth 100000 in
theorem w_St_countHad_18_L4 {G : Gx} (hi : qinj (gad G)) {X : Cx} (C : QC G X cX7_countHad 3 RX7 1 21 (some .int)) {Q : State → Prop} : ∀ (n : Nat) (S : St) (v1 : Int32) (v2 : Int32) (x1 : Int32), m_St_countHad_L4 18 0 n S v1 v2 = some x1 → QW G X 3 Q 37 [(1, .int x1)] [] S → QW G X 3 Q 4 [(0, .ref (gad G 18)), (1, .int v1), (2, .int v2)] [] S := by
  intro n
  induction n with
  | zero =>
    intro S v1 v2 x1 hm kk
    rw [m_St_countHad_L4] at hm
    cases hm
  | succ n ih =>
    intro S v1 v2 x1 hm kk
    rw [m_St_countHad_L4] at hm
    refine q_iload_n (pc := 4) C dX7_countHad_4 rfl 2 rfl ?_
    refine q_aload_n (pc := 5) C dX7_countHad_5 rfl 0 rfl ?_
    refine q_get (pc := 6) (T := TX4) (v := .ref (gad G 1)) C (by decide) (ce_18 _ _ _) (ci := 4) rfl inlX4 (j := 0) (by decide) rfl tw_67 (Or.inl rfl) dX7_countHad_6 ?_
    refine q_get (pc := 9) (T := TX2) (v := .int (S 1 6)) C (by decide) (ce_1 _ _ _) (ci := 2) rfl inlX2 (j := 6) (by decide) rfl tw_252 (Or.inl rfl) dX7_countHad_9 ?_
    refine q_icmp_ge (pc := 12) (tgt := 37) C dX7_countHad_12 (by decide) (fun c1 => ?_) (fun c1 => ?_)
    · replace hm := hm_t c1 hm
      cases hm
      refine q_lv (lv' := [(1, .int v1)]) [1] rfl ?_
      exact kk
    · replace hm := hm_f c1 hm
      refine q_iload_n (pc := 15) C dX7_countHad_15 rfl 1 rfl ?_
      refine q_aload_n (pc := 16) C dX7_countHad_16 rfl 0 rfl ?_
      refine q_iload_n (pc := 17) C dX7_countHad_17 rfl 2 rfl ?_
      obtain ⟨r1, h1, hm⟩ := o1_some hm
      refine q_callU (pc := 18) (k := 18) (As := [.int v2]) (rest := [.int v1]) (T := TX4) (owner := "Tessera$Store") (x := ⟨"Tessera$Store", "has", "(I)Z"⟩) C (c_St_has_18 hi h1) (by decide) (ce_18 _ _ _) (ci := 4) rfl (Or.inl rfl) tw_253 tw_254 tw_256 tw_260 tw_62 tw_257 (nA := 1) (by decide +kernel) rfl (by decide) (Nat.le_of_ble_eq_true rfl) rfl dX7_countHad_18 ?_
      refine q_if_eq (pc := 21) (tgt := 28) C dX7_countHad_21 (by decide) (fun c2 => ?_) (fun c2 => ?_)
      · replace hm := hm_t c2 hm
        refine q_iconst (pc := 28) (v := (0 : Int32)) C dX7_countHad_28 (by decide) ?_
        refine q_iadd (pc := 29) C dX7_countHad_29 ?_
        refine q_istore_n (pc := 30) (lv' := [(1, .int (v1 + (0 : Int32))), (0, .ref (gad G 18)), (2, .int v2)]) C dX7_countHad_30 rfl (by decide) rfl ?_
        refine q_iinc (pc := 31) (k := 2) (v := (v2 + (1 : Int32))) (lv' := [(2, .int (v2 + (1 : Int32))), (1, .int (v1 + (0 : Int32))), (0, .ref (gad G 18))]) C dX7_countHad_31 rfl rfl (by decide) rfl ?_
        refine q_goto (pc := 34) (tgt := 4) C dX7_countHad_34 (by decide) ?_
        refine q_lv (lv' := [(0, .ref (gad G 18)), (1, .int (v1 + (0 : Int32))), (2, .int (v2 + (1 : Int32)))]) [2, 1, 0] rfl ?_
        exact ih _ _ _ _ hm kk
      · replace hm := hm_f c2 hm
        refine q_iconst (pc := 24) (v := (1 : Int32)) C dX7_countHad_24 (by decide) ?_
        refine q_goto (pc := 25) (tgt := 29) C dX7_countHad_25 (by decide) ?_
        refine q_iadd (pc := 29) C dX7_countHad_29 ?_
        refine q_istore_n (pc := 30) (lv' := [(1, .int (v1 + (1 : Int32))), (0, .ref (gad G 18)), (2, .int v2)]) C dX7_countHad_30 rfl (by decide) rfl ?_
        refine q_iinc (pc := 31) (k := 2) (v := (v2 + (1 : Int32))) (lv' := [(2, .int (v2 + (1 : Int32))), (1, .int (v1 + (1 : Int32))), (0, .ref (gad G 18))]) C dX7_countHad_31 rfl rfl (by decide) rfl ?_
        refine q_goto (pc := 34) (tgt := 4) C dX7_countHad_34 (by decide) ?_
        refine q_lv (lv' := [(0, .ref (gad G 18)), (1, .int (v1 + (1 : Int32))), (2, .int (v2 + (1 : Int32)))]) [2, 1, 0] rfl ?_
        exact ih _ _ _ _ hm kk
set_option maxRecDepth 100000 in
theorem c_St_countHad_18 {G : Gx} (hi : qinj (gad G)) {S : St}  {zr : Int32} (hm : m_St_countHad 18 0 S  = some zr) : QMet G yX7_countHad cX7_countHad 3 (some .int) 1 21 [.ref (gad G 18)] S (some (.int zr)) S := by
  refine q_entry (by decide +kernel) rfl hi (Nat.le_of_ble_eq_true rfl) ?_
  intro X C
  refine q_lv (lv' := [(0, .ref (gad G 18))]) [0] rfl ?_
  unfold m_St_countHad at hm
  refine q_iconst (pc := 0) (v := (0 : Int32)) C dX7_countHad_0 (by decide) ?_
  refine q_istore_n (pc := 1) (lv' := [(1, .int (0 : Int32)), (0, .ref (gad G 18))]) C dX7_countHad_1 rfl (by decide) rfl ?_
  refine q_iconst (pc := 2) (v := (0 : Int32)) C dX7_countHad_2 (by decide) ?_
  refine q_istore_n (pc := 3) (lv' := [(2, .int (0 : Int32)), (1, .int (0 : Int32)), (0, .ref (gad G 18))]) C dX7_countHad_3 rfl (by decide) rfl ?_
  refine q_lv (lv' := [(0, .ref (gad G 18)), (1, .int (0 : Int32)), (2, .int (0 : Int32))]) [2, 1, 0] rfl ?_
  obtain ⟨y1, h1, hm⟩ := o1_some hm
  refine w_St_countHad_18_L4 hi C 200 _ _ _ _ h1 ?_
  refine q_iload_n (pc := 37) C dX7_countHad_37 rfl 0 rfl ?_
  cases hm
  exact q_iret (pc := 38) C dX7_countHad_38
set_option maxRecDepth 100000 in
theorem w_Row_empty_27_L2 {G : Gx} (hi : qinj (gad G)) {X : Cx} (C : QC G X cX5_empty 2 RX5 0 0 none) {Q : State → Prop} : ∀ (n : Nat) (S : St) (v1 : Int32) (zS : St), m_Row_empty_L2 27 n S v1 = some zS → QW G X 2 Q 21 [(0, .ref (gad G 27))] [] zS → QW G X 2 Q 2 [(0, .ref (gad G 27)), (1, .int v1)] [] S := by
  intro n
  induction n with
  | zero =>
    intro S v1 zS hm kk
    rw [m_Row_empty_L2] at hm
    cases hm
  | succ n ih =>
    intro S v1 zS hm kk
    rw [m_Row_empty_L2] at hm
    refine q_iload_n (pc := 2) C dX5_empty_2 rfl 1 rfl ?_
    refine q_bipush (pc := 3) (v := (80 : Int32)) C dX5_empty_3 (by decide) ?_
    refine q_icmp_ge (pc := 5) (tgt := 21) C dX5_empty_5 (by decide) (fun c1 => ?_) (fun c1 => ?_)
    · replace hm := hm_t c1 hm
      cases hm
      refine q_lv (lv' := [(0, .ref (gad G 27))]) [0] rfl ?_
      exact kk
    · replace hm := hm_f c1 hm
      refine q_aload_n (pc := 8) C dX5_empty_8 rfl 0 rfl ?_
      refine q_get (pc := 9) (T := TX5) (v := .ref (gad G 29)) C (by decide) (ce_27 _ _ _) (ci := 5) rfl inlX5 (j := 1) (by decide) rfl tw_50 (Or.inl rfl) dX5_empty_9 ?_
      refine q_iload_n (pc := 12) C dX5_empty_12 rfl 1 rfl ?_
      refine q_iconst (pc := 13) (v := (0 : Int32)) C dX5_empty_13 (by decide) ?_
      obtain ⟨b1, hm⟩ := oi_some hm
      refine q_zast0 (pc := 14) C (by decide) (fun _ => ce_29 _ _ _) (ty_29 _) b1 dX5_empty_14 ?_
      refine q_iinc (pc := 15) (k := 1) (v := (v1 + (1 : Int32))) (lv' := [(1, .int (v1 + (1 : Int32))), (0, .ref (gad G 27))]) C dX5_empty_15 rfl rfl (by decide) rfl ?_
      refine q_goto (pc := 18) (tgt := 2) C dX5_empty_18 (by decide) ?_
      refine q_lv (lv' := [(0, .ref (gad G 27)), (1, .int (v1 + (1 : Int32)))]) [1, 0] rfl ?_
      exact ih _ _ _ hm kk
set_option maxRecDepth 100000 in
theorem c_Row_empty_27 {G : Gx} (hi : qinj (gad G)) {S : St}  {zS : St} (hm : m_Row_empty 27 S  = some zS) : QMet G yX5_empty cX5_empty 2 none 0 0 [.ref (gad G 27)] S none zS := by
  refine q_entry (by decide +kernel) rfl hi (Nat.le_of_ble_eq_true rfl) ?_
  intro X C
  refine q_lv (lv' := [(0, .ref (gad G 27))]) [0] rfl ?_
  unfold m_Row_empty at hm
  refine q_iconst (pc := 0) (v := (0 : Int32)) C dX5_empty_0 (by decide) ?_
  refine q_istore_n (pc := 1) (lv' := [(1, .int (0 : Int32)), (0, .ref (gad G 27))]) C dX5_empty_1 rfl (by decide) rfl ?_
  refine q_lv (lv' := [(0, .ref (gad G 27)), (1, .int (0 : Int32))]) [1, 0] rfl ?_
  obtain ⟨S1, h1, hm⟩ := o1_some hm
  refine w_Row_empty_27_L2 hi C 200 _ _ _ h1 ?_
  refine q_aload_n (pc := 21) C dX5_empty_21 rfl 0 rfl ?_
  refine q_iconst (pc := 22) (v := (0 : Int32)) C dX5_empty_22 (by decide) ?_
  refine q_put (pc := 23) (T := TX5) (ty := .int) C tyX5 tyX5_ok nmX5 (by decide) (ce_27 _ _ _) (pe_27_2 _ _ _ _) (ci := 5) rfl inlX5 (j := 2) (by decide) (Nat.le_of_ble_eq_true rfl) tw_127 (Or.inl rfl) rfl (by decide +kernel) rfl rfl dX5_empty_23 ?_
  cases hm
  exact q_vret (pc := 26) C dX5_empty_26
set_option maxRecDepth 100000 in
theorem c_Row_get_24 {G : Gx} (hi : qinj (gad G)) {S : St} {a1 : Int32} {zr : Int32} (hm : m_Row_get 24 S a1 = some zr) : QMet G yX5_get cX5_get 2 (some .int) 0 0 [.ref (gad G 24), .int a1] S (some (.int zr)) S := by
  refine q_entry (by decide +kernel) rfl hi (Nat.le_of_ble_eq_true rfl) ?_
  intro X C
  refine q_lv (lv' := [(0, .ref (gad G 24)), (1, .int a1)]) [0, 1] rfl ?_
  unfold m_Row_get at hm
  refine q_iload_n (pc := 0) C dX5_get_0 rfl 1 rfl ?_
  refine q_if_lt (pc := 1) (tgt := 21) C dX5_get_1 (by decide) (fun c1 => ?_) (fun c1 => ?_)
  · replace hm := hm_t c1 hm
    refine q_iconst (pc := 21) (v := (-1 : Int32)) C dX5_get_21 (by decide) ?_
    cases hm
    exact q_iret (pc := 22) C dX5_get_22
  · replace hm := hm_f c1 hm
    refine q_iload_n (pc := 4) C dX5_get_4 rfl 1 rfl ?_
    refine q_aload_n (pc := 5) C dX5_get_5 rfl 0 rfl ?_
    refine q_get (pc := 6) (T := TX5) (v := .int (S 24 2)) C (by decide) (ce_24 _ _ _) (ci := 5) rfl inlX5 (j := 2) (by decide) rfl tw_127 (Or.inl rfl) dX5_get_6 ?_
    refine q_icmp_ge (pc := 9) (tgt := 21) C dX5_get_9 (by decide) (fun c2 => ?_) (fun c2 => ?_)
    · replace hm := hm_t c2 hm
      refine q_iconst (pc := 21) (v := (-1 : Int32)) C dX5_get_21 (by decide) ?_
      cases hm
      exact q_iret (pc := 22) C dX5_get_22
    · replace hm := hm_f c2 hm
      refine q_aload_n (pc := 12) C dX5_get_12 rfl 0 rfl ?_
      refine q_get (pc := 13) (T := TX5) (v := .ref (gad G 25)) C (by decide) (ce_24 _ _ _) (ci := 5) rfl inlX5 (j := 0) (by decide) rfl tw_49 (Or.inl rfl) dX5_get_13 ?_
      refine q_iload_n (pc := 16) C dX5_get_16 rfl 1 rfl ?_
      obtain ⟨b1, hm⟩ := oi_some hm
      refine q_iald (pc := 17) C (by decide) (ce_25 _ _ _) (ty_25 _) b1 dX5_get_17 ?_
      refine q_goto (pc := 18) (tgt := 22) C dX5_get_18 (by decide) ?_
      cases hm
      exact q_iret (pc := 22) C dX5_get_22
set_option maxRecDepth 100000 in
theorem c_Row_add_27 {G : Gx} (hi : qinj (gad G)) {S : St} {a1 : Int32} {zS : St} (hm : m_Row_add 27 S a1 = some zS) : QMet G yX5_add cX5_add 2 none 0 0 [.ref (gad G 27), .int a1] S none zS := by
  refine q_entry (by decide +kernel) rfl hi (Nat.le_of_ble_eq_true rfl) ?_
  intro X C
  refine q_lv (lv' := [(0, .ref (gad G 27)), (1, .int a1)]) [0, 1] rfl ?_
  unfold m_Row_add at hm
  refine q_iload_n (pc := 0) C dX5_add_0 rfl 1 rfl ?_
  refine q_if_lt (pc := 1) (tgt := 28) C dX5_add_1 (by decide) (fun c1 => ?_) (fun c1 => ?_)
  · replace hm := hm_t c1 hm
    cases hm
    exact q_vret (pc := 28) C dX5_add_28
  · replace hm := hm_f c1 hm
    refine q_iload_n (pc := 4) C dX5_add_4 rfl 1 rfl ?_
    refine q_bipush (pc := 5) (v := (80 : Int32)) C dX5_add_5 (by decide) ?_
    refine q_icmp_ge (pc := 7) (tgt := 28) C dX5_add_7 (by decide) (fun c2 => ?_) (fun c2 => ?_)
    · replace hm := hm_t c2 hm
      cases hm
      exact q_vret (pc := 28) C dX5_add_28
    · replace hm := hm_f c2 hm
      refine q_aload_n (pc := 10) C dX5_add_10 rfl 0 rfl ?_
      refine q_get (pc := 11) (T := TX5) (v := .ref (gad G 29)) C (by decide) (ce_27 _ _ _) (ci := 5) rfl inlX5 (j := 1) (by decide) rfl tw_50 (Or.inl rfl) dX5_add_11 ?_
      refine q_iload_n (pc := 14) C dX5_add_14 rfl 1 rfl ?_
      obtain ⟨b1, hm⟩ := oi_some hm
      refine q_zald (pc := 15) C (by decide) (ce_29 _ _ _) (ty_29 _) b1 dX5_add_15 ?_
      refine q_if_ne (pc := 16) (tgt := 28) C dX5_add_16 (by decide) (fun c3 => ?_) (fun c3 => ?_)
      · replace hm := hm_f c3 hm
        cases hm
        exact q_vret (pc := 28) C dX5_add_28
      · replace hm := hm_t c3 hm
        refine q_aload_n (pc := 19) C dX5_add_19 rfl 0 rfl ?_
        refine q_get (pc := 20) (T := TX5) (v := .int (S 27 2)) C (by decide) (ce_27 _ _ _) (ci := 5) rfl inlX5 (j := 2) (by decide) rfl tw_127 (Or.inl rfl) dX5_add_20 ?_
        refine q_bipush (pc := 23) (v := (80 : Int32)) C dX5_add_23 (by decide) ?_
        refine q_icmp_lt (pc := 25) (tgt := 29) C dX5_add_25 (by decide) (fun c4 => ?_) (fun c4 => ?_)
        · replace hm := hm_t c4 hm
          refine q_aload_n (pc := 29) C dX5_add_29 rfl 0 rfl ?_
          refine q_get (pc := 30) (T := TX5) (v := .ref (gad G 29)) C (by decide) (ce_27 _ _ _) (ci := 5) rfl inlX5 (j := 1) (by decide) rfl tw_50 (Or.inl rfl) dX5_add_30 ?_
          refine q_iload_n (pc := 33) C dX5_add_33 rfl 1 rfl ?_
          refine q_iconst (pc := 34) (v := (1 : Int32)) C dX5_add_34 (by decide) ?_
          obtain ⟨b2, hm⟩ := oi_some hm
          refine q_zast1 (pc := 35) C (by decide) (fun _ => ce_29 _ _ _) (ty_29 _) b2 dX5_add_35 ?_
          refine q_aload_n (pc := 36) C dX5_add_36 rfl 0 rfl ?_
          refine q_get (pc := 37) (T := TX5) (v := .ref (gad G 28)) C (by decide) (ce_27 _ _ _) (ci := 5) rfl inlX5 (j := 0) (by decide) rfl tw_49 (Or.inl rfl) dX5_add_37 ?_
          refine q_aload_n (pc := 40) C dX5_add_40 rfl 0 rfl ?_
          refine q_get (pc := 41) (T := TX5) (v := .int (S 27 2)) C (by decide) (ce_27 _ _ _) (ci := 5) rfl inlX5 (j := 2) (by decide) rfl tw_127 (Or.inl rfl) dX5_add_41 ?_
          refine q_iload_n (pc := 44) C dX5_add_44 rfl 1 rfl ?_
          obtain ⟨b3, hm⟩ := oi_some hm
          refine q_iast (pc := 45) C (by decide) (fun _ => ce_28 _ _ _) (ty_28 _) b3 dX5_add_45 ?_
          refine q_aload_n (pc := 46) C dX5_add_46 rfl 0 rfl ?_
          refine q_dup (pc := 47) C dX5_add_47 rfl ?_
          refine q_get (pc := 48) (T := TX5) (v := .int (S 27 2)) C (by decide) (ce_27 _ _ _) (ci := 5) rfl inlX5 (j := 2) (by decide) rfl tw_127 (Or.inl rfl) dX5_add_48 ?_
          refine q_iconst (pc := 51) (v := (1 : Int32)) C dX5_add_51 (by decide) ?_
          refine q_iadd (pc := 52) C dX5_add_52 ?_
          refine q_put (pc := 53) (T := TX5) (ty := .int) C tyX5 tyX5_ok nmX5 (by decide) (ce_27 _ _ _) (pe_27_2 _ _ _ _) (ci := 5) rfl inlX5 (j := 2) (by decide) (Nat.le_of_ble_eq_true rfl) tw_127 (Or.inl rfl) rfl (by decide +kernel) rfl rfl dX5_add_53 ?_
          cases hm
          exact q_vret (pc := 56) C dX5_add_56
        · replace hm := hm_f c4 hm
          cases hm
          exact q_vret (pc := 28) C dX5_add_28
set_option maxRecDepth 100000 in
theorem w_Nur_addReached_24_L2 {G : Gx} (hi : qinj (gad G)) {X : Cx} (C : QC G X cX4_addReached 3 RX4 1 21 none) {Q : State → Prop} : ∀ (n : Nat) (S : St) (v2 : Int32) (zS : St), m_Nur_addReached_L2 24 n S v2 = some zS → QW G X 3 Q 43 [] [] zS → QW G X 3 Q 2 [(0, .ref (gad G 18)), (1, .ref (gad G 24)), (2, .int v2)] [] S := by
  intro n
  induction n with
  | zero =>
    intro S v2 zS hm kk
    rw [m_Nur_addReached_L2] at hm
    cases hm
  | succ n ih =>
    intro S v2 zS hm kk
    rw [m_Nur_addReached_L2] at hm
    refine q_iload_n (pc := 2) C dX4_addReached_2 rfl 2 rfl ?_
    refine q_aload_n (pc := 3) C dX4_addReached_3 rfl 1 rfl ?_
    refine q_get (pc := 4) (T := TX5) (v := .int (S 24 2)) C (by decide) (ce_24 _ _ _) (ci := 5) rfl inlX5 (j := 2) (by decide) rfl tw_497 (Or.inl rfl) dX4_addReached_4 ?_
    refine q_icmp_ge (pc := 7) (tgt := 43) C dX4_addReached_7 (by decide) (fun c1 => ?_) (fun c1 => ?_)
    · replace hm := hm_t c1 hm
      cases hm
      refine q_lv (lv' := []) [] rfl ?_
      exact kk
    · replace hm := hm_f c1 hm
      refine q_aload_n (pc := 10) C dX4_addReached_10 rfl 0 rfl ?_
      refine q_get (pc := 11) (T := TX4) (v := .ref (gad G 1)) C (by decide) (ce_18 _ _ _) (ci := 4) rfl inlX4 (j := 0) (by decide) rfl tw_484 (Or.inr tw_485) dX4_addReached_11 ?_
      refine q_aload_n (pc := 14) C dX4_addReached_14 rfl 1 rfl ?_
      refine q_iload_n (pc := 15) C dX4_addReached_15 rfl 2 rfl ?_
      obtain ⟨r1, h1, hm⟩ := o1_some hm
      refine q_callV (pc := 16) (k := 24) (As := [.int v2]) (rest := [.ref (gad G 1)]) (T := TX5) C (c_Row_get_24 hi h1) (by decide) (ce_24 _ _ _) (ci := 5) rfl tw_502 tw_271 tw_272 tw_43 tw_273 (nA := 1) (by decide +kernel) rfl (by decide) (Nat.le_of_ble_eq_true rfl) rfl dX4_addReached_16 ?_
      obtain ⟨r2, h2, hm⟩ := o1_some hm
      refine q_callV (pc := 19) (k := 1) (As := [.int r1]) (rest := []) (T := TX2) C (c_Gr_isReached hi h2) (by decide) (ce_1 _ _ _) (ci := 2) rfl tw_543 tw_526 tw_527 tw_13 tw_528 (nA := 1) (by decide +kernel) rfl (by decide) (Nat.le_of_ble_eq_true rfl) rfl dX4_addReached_19 ?_
      refine q_if_eq (pc := 22) (tgt := 37) C dX4_addReached_22 (by decide) (fun c2 => ?_) (fun c2 => ?_)
      · replace hm := hm_t c2 hm
        refine q_iinc (pc := 37) (k := 2) (v := (v2 + (1 : Int32))) (lv' := [(2, .int (v2 + (1 : Int32))), (0, .ref (gad G 18)), (1, .ref (gad G 24))]) C dX4_addReached_37 rfl rfl (by decide) rfl ?_
        refine q_goto (pc := 40) (tgt := 2) C dX4_addReached_40 (by decide) ?_
        refine q_lv (lv' := [(0, .ref (gad G 18)), (1, .ref (gad G 24)), (2, .int (v2 + (1 : Int32)))]) [1, 2, 0] rfl ?_
        exact ih _ _ _ hm kk
      · replace hm := hm_f c2 hm
        refine q_aload_n (pc := 25) C dX4_addReached_25 rfl 0 rfl ?_
        refine q_get (pc := 26) (T := TX4) (v := .ref (gad G 27)) C (by decide) (ce_18 _ _ _) (ci := 4) rfl inlX4 (j := 13) (by decide) rfl tw_57 (Or.inl rfl) dX4_addReached_26 ?_
        refine q_aload_n (pc := 29) C dX4_addReached_29 rfl 1 rfl ?_
        refine q_iload_n (pc := 30) C dX4_addReached_30 rfl 2 rfl ?_
        obtain ⟨r3, h3, hm⟩ := o1_some hm
        refine q_callV (pc := 31) (k := 24) (As := [.int v2]) (rest := [.ref (gad G 27)]) (T := TX5) C (c_Row_get_24 hi h3) (by decide) (ce_24 _ _ _) (ci := 5) rfl tw_502 tw_271 tw_272 tw_43 tw_273 (nA := 1) (by decide +kernel) rfl (by decide) (Nat.le_of_ble_eq_true rfl) rfl dX4_addReached_31 ?_
        obtain ⟨S1, h4, hm⟩ := o1_some hm
        refine q_callV (pc := 34) (k := 27) (As := [.int r3]) (rest := []) (T := TX5) C (c_Row_add_27 hi h4) (by decide) (ce_27 _ _ _) (ci := 5) rfl tw_544 tw_267 tw_268 tw_43 tw_269 (nA := 1) (by decide +kernel) rfl (by decide) (Nat.le_of_ble_eq_true rfl) rfl dX4_addReached_34 ?_
        refine q_iinc (pc := 37) (k := 2) (v := (v2 + (1 : Int32))) (lv' := [(2, .int (v2 + (1 : Int32))), (0, .ref (gad G 18)), (1, .ref (gad G 24))]) C dX4_addReached_37 rfl rfl (by decide) rfl ?_
        refine q_goto (pc := 40) (tgt := 2) C dX4_addReached_40 (by decide) ?_
        refine q_lv (lv' := [(0, .ref (gad G 18)), (1, .ref (gad G 24)), (2, .int (v2 + (1 : Int32)))]) [1, 2, 0] rfl ?_
        exact ih _ _ _ hm kk
set_option maxRecDepth 100000 in
theorem c_Nur_addReached_24 {G : Gx} (hi : qinj (gad G)) {S : St}  {zS : St} (hm : m_Nur_addReached 24 S  = some zS) : QMet G yX4_addReached cX4_addReached 3 none 1 21 [.ref (gad G 18), .ref (gad G 24)] S none zS := by
  refine q_entry (by decide +kernel) rfl hi (Nat.le_of_ble_eq_true rfl) ?_
  intro X C
  refine q_lv (lv' := [(0, .ref (gad G 18)), (1, .ref (gad G 24))]) [0, 1] rfl ?_
  unfold m_Nur_addReached at hm
  refine q_iconst (pc := 0) (v := (0 : Int32)) C dX4_addReached_0 (by decide) ?_
  refine q_istore_n (pc := 1) (lv' := [(2, .int (0 : Int32)), (0, .ref (gad G 18)), (1, .ref (gad G 24))]) C dX4_addReached_1 rfl (by decide) rfl ?_
  refine q_lv (lv' := [(0, .ref (gad G 18)), (1, .ref (gad G 24)), (2, .int (0 : Int32))]) [1, 2, 0] rfl ?_
  obtain ⟨S1, h1, hm⟩ := o1_some hm
  refine w_Nur_addReached_24_L2 hi C 200 _ _ _ h1 ?_
  cases hm
  exact q_vret (pc := 43) C dX4_addReached_43
set_option maxRecDepth 100000 in
theorem c_Row_get_21 {G : Gx} (hi : qinj (gad G)) {S : St} {a1 : Int32} {zr : Int32} (hm : m_Row_get 21 S a1 = some zr) : QMet G yX5_get cX5_get 2 (some .int) 0 0 [.ref (gad G 21), .int a1] S (some (.int zr)) S := by
  refine q_entry (by decide +kernel) rfl hi (Nat.le_of_ble_eq_true rfl) ?_
  intro X C
  refine q_lv (lv' := [(0, .ref (gad G 21)), (1, .int a1)]) [0, 1] rfl ?_
  unfold m_Row_get at hm
  refine q_iload_n (pc := 0) C dX5_get_0 rfl 1 rfl ?_
  refine q_if_lt (pc := 1) (tgt := 21) C dX5_get_1 (by decide) (fun c1 => ?_) (fun c1 => ?_)
  · replace hm := hm_t c1 hm
    refine q_iconst (pc := 21) (v := (-1 : Int32)) C dX5_get_21 (by decide) ?_
    cases hm
    exact q_iret (pc := 22) C dX5_get_22
  · replace hm := hm_f c1 hm
    refine q_iload_n (pc := 4) C dX5_get_4 rfl 1 rfl ?_
    refine q_aload_n (pc := 5) C dX5_get_5 rfl 0 rfl ?_
    refine q_get (pc := 6) (T := TX5) (v := .int (S 21 2)) C (by decide) (ce_21 _ _ _) (ci := 5) rfl inlX5 (j := 2) (by decide) rfl tw_127 (Or.inl rfl) dX5_get_6 ?_
    refine q_icmp_ge (pc := 9) (tgt := 21) C dX5_get_9 (by decide) (fun c2 => ?_) (fun c2 => ?_)
    · replace hm := hm_t c2 hm
      refine q_iconst (pc := 21) (v := (-1 : Int32)) C dX5_get_21 (by decide) ?_
      cases hm
      exact q_iret (pc := 22) C dX5_get_22
    · replace hm := hm_f c2 hm
      refine q_aload_n (pc := 12) C dX5_get_12 rfl 0 rfl ?_
      refine q_get (pc := 13) (T := TX5) (v := .ref (gad G 22)) C (by decide) (ce_21 _ _ _) (ci := 5) rfl inlX5 (j := 0) (by decide) rfl tw_49 (Or.inl rfl) dX5_get_13 ?_
      refine q_iload_n (pc := 16) C dX5_get_16 rfl 1 rfl ?_
      obtain ⟨b1, hm⟩ := oi_some hm
      refine q_iald (pc := 17) C (by decide) (ce_22 _ _ _) (ty_22 _) b1 dX5_get_17 ?_
      refine q_goto (pc := 18) (tgt := 22) C dX5_get_18 (by decide) ?_
      cases hm
      exact q_iret (pc := 22) C dX5_get_22
set_option maxRecDepth 100000 in
theorem w_Nur_addReached_21_L2 {G : Gx} (hi : qinj (gad G)) {X : Cx} (C : QC G X cX4_addReached 3 RX4 1 21 none) {Q : State → Prop} : ∀ (n : Nat) (S : St) (v2 : Int32) (zS : St), m_Nur_addReached_L2 21 n S v2 = some zS → QW G X 3 Q 43 [] [] zS → QW G X 3 Q 2 [(0, .ref (gad G 18)), (1, .ref (gad G 21)), (2, .int v2)] [] S := by
  intro n
  induction n with
  | zero =>
    intro S v2 zS hm kk
    rw [m_Nur_addReached_L2] at hm
    cases hm
  | succ n ih =>
    intro S v2 zS hm kk
    rw [m_Nur_addReached_L2] at hm
    refine q_iload_n (pc := 2) C dX4_addReached_2 rfl 2 rfl ?_
    refine q_aload_n (pc := 3) C dX4_addReached_3 rfl 1 rfl ?_
    refine q_get (pc := 4) (T := TX5) (v := .int (S 21 2)) C (by decide) (ce_21 _ _ _) (ci := 5) rfl inlX5 (j := 2) (by decide) rfl tw_497 (Or.inl rfl) dX4_addReached_4 ?_
    refine q_icmp_ge (pc := 7) (tgt := 43) C dX4_addReached_7 (by decide) (fun c1 => ?_) (fun c1 => ?_)
    · replace hm := hm_t c1 hm
      cases hm
      refine q_lv (lv' := []) [] rfl ?_
      exact kk
    · replace hm := hm_f c1 hm
      refine q_aload_n (pc := 10) C dX4_addReached_10 rfl 0 rfl ?_
      refine q_get (pc := 11) (T := TX4) (v := .ref (gad G 1)) C (by decide) (ce_18 _ _ _) (ci := 4) rfl inlX4 (j := 0) (by decide) rfl tw_484 (Or.inr tw_485) dX4_addReached_11 ?_
      refine q_aload_n (pc := 14) C dX4_addReached_14 rfl 1 rfl ?_
      refine q_iload_n (pc := 15) C dX4_addReached_15 rfl 2 rfl ?_
      obtain ⟨r1, h1, hm⟩ := o1_some hm
      refine q_callV (pc := 16) (k := 21) (As := [.int v2]) (rest := [.ref (gad G 1)]) (T := TX5) C (c_Row_get_21 hi h1) (by decide) (ce_21 _ _ _) (ci := 5) rfl tw_502 tw_271 tw_272 tw_43 tw_273 (nA := 1) (by decide +kernel) rfl (by decide) (Nat.le_of_ble_eq_true rfl) rfl dX4_addReached_16 ?_
      obtain ⟨r2, h2, hm⟩ := o1_some hm
      refine q_callV (pc := 19) (k := 1) (As := [.int r1]) (rest := []) (T := TX2) C (c_Gr_isReached hi h2) (by decide) (ce_1 _ _ _) (ci := 2) rfl tw_543 tw_526 tw_527 tw_13 tw_528 (nA := 1) (by decide +kernel) rfl (by decide) (Nat.le_of_ble_eq_true rfl) rfl dX4_addReached_19 ?_
      refine q_if_eq (pc := 22) (tgt := 37) C dX4_addReached_22 (by decide) (fun c2 => ?_) (fun c2 => ?_)
      · replace hm := hm_t c2 hm
        refine q_iinc (pc := 37) (k := 2) (v := (v2 + (1 : Int32))) (lv' := [(2, .int (v2 + (1 : Int32))), (0, .ref (gad G 18)), (1, .ref (gad G 21))]) C dX4_addReached_37 rfl rfl (by decide) rfl ?_
        refine q_goto (pc := 40) (tgt := 2) C dX4_addReached_40 (by decide) ?_
        refine q_lv (lv' := [(0, .ref (gad G 18)), (1, .ref (gad G 21)), (2, .int (v2 + (1 : Int32)))]) [1, 2, 0] rfl ?_
        exact ih _ _ _ hm kk
      · replace hm := hm_f c2 hm
        refine q_aload_n (pc := 25) C dX4_addReached_25 rfl 0 rfl ?_
        refine q_get (pc := 26) (T := TX4) (v := .ref (gad G 27)) C (by decide) (ce_18 _ _ _) (ci := 4) rfl inlX4 (j := 13) (by decide) rfl tw_57 (Or.inl rfl) dX4_addReached_26 ?_
        refine q_aload_n (pc := 29) C dX4_addReached_29 rfl 1 rfl ?_
        refine q_iload_n (pc := 30) C dX4_addReached_30 rfl 2 rfl ?_
        obtain ⟨r3, h3, hm⟩ := o1_some hm
        refine q_callV (pc := 31) (k := 21) (As := [.int v2]) (rest := [.ref (gad G 27)]) (T := TX5) C (c_Row_get_21 hi h3) (by decide) (ce_21 _ _ _) (ci := 5) rfl tw_502 tw_271 tw_272 tw_43 tw_273 (nA := 1) (by decide +kernel) rfl (by decide) (Nat.le_of_ble_eq_true rfl) rfl dX4_addReached_31 ?_
        obtain ⟨S1, h4, hm⟩ := o1_some hm
        refine q_callV (pc := 34) (k := 27) (As := [.int r3]) (rest := []) (T := TX5) C (c_Row_add_27 hi h4) (by decide) (ce_27 _ _ _) (ci := 5) rfl tw_544 tw_267 tw_268 tw_43 tw_269 (nA := 1) (by decide +kernel) rfl (by decide) (Nat.le_of_ble_eq_true rfl) rfl dX4_addReached_34 ?_
        refine q_iinc (pc := 37) (k := 2) (v := (v2 + (1 : Int32))) (lv' := [(2, .int (v2 + (1 : Int32))), (0, .ref (gad G 18)), (1, .ref (gad G 21))]) C dX4_addReached_37 rfl rfl (by decide) rfl ?_
        refine q_goto (pc := 40) (tgt := 2) C dX4_addReached_40 (by decide) ?_
        refine q_lv (lv' := [(0, .ref (gad G 18)), (1, .ref (gad G 21)), (2, .int (v2 + (1 : Int32)))]) [1, 2, 0] rfl ?_
        exact ih _ _ _ hm kk
set_option maxRecDepth 100000 in
theorem c_Nur_addReached_21 {G : Gx} (hi : qinj (gad G)) {S : St}  {zS : St} (hm : m_Nur_addReached 21 S  = some zS) : QMet G yX4_addReached cX4_addReached 3 none 1 21 [.ref (gad G 18), .ref (gad G 21)] S none zS := by
  refine q_entry (by decide +kernel) rfl hi (Nat.le_of_ble_eq_true rfl) ?_
  intro X C
  refine q_lv (lv' := [(0, .ref (gad G 18)), (1, .ref (gad G 21))]) [0, 1] rfl ?_
  unfold m_Nur_addReached at hm
  refine q_iconst (pc := 0) (v := (0 : Int32)) C dX4_addReached_0 (by decide) ?_
  refine q_istore_n (pc := 1) (lv' := [(2, .int (0 : Int32)), (0, .ref (gad G 18)), (1, .ref (gad G 21))]) C dX4_addReached_1 rfl (by decide) rfl ?_
  refine q_lv (lv' := [(0, .ref (gad G 18)), (1, .ref (gad G 21)), (2, .int (0 : Int32))]) [1, 2, 0] rfl ?_
  obtain ⟨S1, h1, hm⟩ := o1_some hm
  refine w_Nur_addReached_21_L2 hi C 200 _ _ _ h1 ?_
  cases hm
  exact q_vret (pc := 43) C dX4_addReached_43
set_option maxRecDepth 100000 in
theorem c_Nur_findReached {G : Gx} (hi : qinj (gad G)) {S : St}  {zS : St} (hm : m_Nur_findReached S  = some zS) : QMet G yX4_findReached cX4_findReached 1 none 2 43 [.ref (gad G 18)] S none zS := by
  refine q_entry (by decide +kernel) rfl hi (Nat.le_of_ble_eq_true rfl) ?_
  intro X C
  refine q_lv (lv' := [(0, .ref (gad G 18))]) [0] rfl ?_
  unfold m_Nur_findReached at hm
  refine q_aload_n (pc := 0) C dX4_findReached_0 rfl 0 rfl ?_
  refine q_get (pc := 1) (T := TX4) (v := .ref (gad G 27)) C (by decide) (ce_18 _ _ _) (ci := 4) rfl inlX4 (j := 13) (by decide) rfl tw_57 (Or.inl rfl) dX4_findReached_1 ?_
  obtain ⟨S1, h1, hm⟩ := o1_some hm
  refine q_callV (pc := 4) (k := 27) (As := []) (rest := []) (T := TX5) C (c_Row_empty_27 hi h1) (by decide) (ce_27 _ _ _) (ci := 5) rfl tw_168 tw_124 tw_125 tw_43 tw_126 (nA := 0) (by decide +kernel) rfl (by decide) (Nat.le_of_ble_eq_true rfl) rfl dX4_findReached_4 ?_
  refine q_aload_n (pc := 7) C dX4_findReached_7 rfl 0 rfl ?_
  refine q_aload_n (pc := 8) C dX4_findReached_8 rfl 0 rfl ?_
  refine q_get (pc := 9) (T := TX4) (v := .ref (gad G 24)) C (by decide) (ce_18 _ _ _) (ci := 4) rfl inlX4 (j := 12) (by decide) rfl tw_56 (Or.inl rfl) dX4_findReached_9 ?_
  obtain ⟨S2, h2, hm⟩ := o1_some hm
  refine q_callV (pc := 12) (k := 18) (As := [.ref (gad G 24)]) (rest := []) (T := TX4) C (c_Nur_addReached_24 hi h2) (by decide) (ce_18 _ _ _) (ci := 4) rfl tw_539 tw_540 tw_541 tw_16 tw_542 (nA := 1) (by decide +kernel) rfl (by decide) (Nat.le_of_ble_eq_true rfl) rfl dX4_findReached_12 ?_
  refine q_aload_n (pc := 15) C dX4_findReached_15 rfl 0 rfl ?_
  refine q_aload_n (pc := 16) C dX4_findReached_16 rfl 0 rfl ?_
  refine q_get (pc := 17) (T := TX4) (v := .ref (gad G 21)) C (by decide) (ce_18 _ _ _) (ci := 4) rfl inlX4 (j := 11) (by decide) rfl tw_55 (Or.inl rfl) dX4_findReached_17 ?_
  obtain ⟨S3, h3, hm⟩ := o1_some hm
  refine q_callV (pc := 20) (k := 18) (As := [.ref (gad G 21)]) (rest := []) (T := TX4) C (c_Nur_addReached_21 hi h3) (by decide) (ce_18 _ _ _) (ci := 4) rfl tw_539 tw_540 tw_541 tw_16 tw_542 (nA := 1) (by decide +kernel) rfl (by decide) (Nat.le_of_ble_eq_true rfl) rfl dX4_findReached_20 ?_
  cases hm
  exact q_vret (pc := 23) C dX4_findReached_23
set_option maxRecDepth 100000 in
theorem c_Row_get_27 {G : Gx} (hi : qinj (gad G)) {S : St} {a1 : Int32} {zr : Int32} (hm : m_Row_get 27 S a1 = some zr) : QMet G yX5_get cX5_get 2 (some .int) 0 0 [.ref (gad G 27), .int a1] S (some (.int zr)) S := by
  refine q_entry (by decide +kernel) rfl hi (Nat.le_of_ble_eq_true rfl) ?_
  intro X C
  refine q_lv (lv' := [(0, .ref (gad G 27)), (1, .int a1)]) [0, 1] rfl ?_
  unfold m_Row_get at hm
  refine q_iload_n (pc := 0) C dX5_get_0 rfl 1 rfl ?_
  refine q_if_lt (pc := 1) (tgt := 21) C dX5_get_1 (by decide) (fun c1 => ?_) (fun c1 => ?_)
  · replace hm := hm_t c1 hm
    refine q_iconst (pc := 21) (v := (-1 : Int32)) C dX5_get_21 (by decide) ?_
    cases hm
    exact q_iret (pc := 22) C dX5_get_22
  · replace hm := hm_f c1 hm
    refine q_iload_n (pc := 4) C dX5_get_4 rfl 1 rfl ?_
    refine q_aload_n (pc := 5) C dX5_get_5 rfl 0 rfl ?_
    refine q_get (pc := 6) (T := TX5) (v := .int (S 27 2)) C (by decide) (ce_27 _ _ _) (ci := 5) rfl inlX5 (j := 2) (by decide) rfl tw_127 (Or.inl rfl) dX5_get_6 ?_
    refine q_icmp_ge (pc := 9) (tgt := 21) C dX5_get_9 (by decide) (fun c2 => ?_) (fun c2 => ?_)
    · replace hm := hm_t c2 hm
      refine q_iconst (pc := 21) (v := (-1 : Int32)) C dX5_get_21 (by decide) ?_
      cases hm
      exact q_iret (pc := 22) C dX5_get_22
    · replace hm := hm_f c2 hm
      refine q_aload_n (pc := 12) C dX5_get_12 rfl 0 rfl ?_
      refine q_get (pc := 13) (T := TX5) (v := .ref (gad G 28)) C (by decide) (ce_27 _ _ _) (ci := 5) rfl inlX5 (j := 0) (by decide) rfl tw_49 (Or.inl rfl) dX5_get_13 ?_
      refine q_iload_n (pc := 16) C dX5_get_16 rfl 1 rfl ?_
      obtain ⟨b1, hm⟩ := oi_some hm
      refine q_iald (pc := 17) C (by decide) (ce_28 _ _ _) (ty_28 _) b1 dX5_get_17 ?_
      refine q_goto (pc := 18) (tgt := 22) C dX5_get_18 (by decide) ?_
      cases hm
      exact q_iret (pc := 22) C dX5_get_22
set_option maxRecDepth 100000 in
theorem c_Row_add_24 {G : Gx} (hi : qinj (gad G)) {S : St} {a1 : Int32} {zS : St} (hm : m_Row_add 24 S a1 = some zS) : QMet G yX5_add cX5_add 2 none 0 0 [.ref (gad G 24), .int a1] S none zS := by
  refine q_entry (by decide +kernel) rfl hi (Nat.le_of_ble_eq_true rfl) ?_
  intro X C
  refine q_lv (lv' := [(0, .ref (gad G 24)), (1, .int a1)]) [0, 1] rfl ?_
  unfold m_Row_add at hm
  refine q_iload_n (pc := 0) C dX5_add_0 rfl 1 rfl ?_
  refine q_if_lt (pc := 1) (tgt := 28) C dX5_add_1 (by decide) (fun c1 => ?_) (fun c1 => ?_)
  · replace hm := hm_t c1 hm
    cases hm
    exact q_vret (pc := 28) C dX5_add_28
  · replace hm := hm_f c1 hm
    refine q_iload_n (pc := 4) C dX5_add_4 rfl 1 rfl ?_
    refine q_bipush (pc := 5) (v := (80 : Int32)) C dX5_add_5 (by decide) ?_
    refine q_icmp_ge (pc := 7) (tgt := 28) C dX5_add_7 (by decide) (fun c2 => ?_) (fun c2 => ?_)
    · replace hm := hm_t c2 hm
      cases hm
      exact q_vret (pc := 28) C dX5_add_28
    · replace hm := hm_f c2 hm
      refine q_aload_n (pc := 10) C dX5_add_10 rfl 0 rfl ?_
      refine q_get (pc := 11) (T := TX5) (v := .ref (gad G 26)) C (by decide) (ce_24 _ _ _) (ci := 5) rfl inlX5 (j := 1) (by decide) rfl tw_50 (Or.inl rfl) dX5_add_11 ?_
      refine q_iload_n (pc := 14) C dX5_add_14 rfl 1 rfl ?_
      obtain ⟨b1, hm⟩ := oi_some hm
      refine q_zald (pc := 15) C (by decide) (ce_26 _ _ _) (ty_26 _) b1 dX5_add_15 ?_
      refine q_if_ne (pc := 16) (tgt := 28) C dX5_add_16 (by decide) (fun c3 => ?_) (fun c3 => ?_)
      · replace hm := hm_f c3 hm
        cases hm
        exact q_vret (pc := 28) C dX5_add_28
      · replace hm := hm_t c3 hm
        refine q_aload_n (pc := 19) C dX5_add_19 rfl 0 rfl ?_
        refine q_get (pc := 20) (T := TX5) (v := .int (S 24 2)) C (by decide) (ce_24 _ _ _) (ci := 5) rfl inlX5 (j := 2) (by decide) rfl tw_127 (Or.inl rfl) dX5_add_20 ?_
        refine q_bipush (pc := 23) (v := (80 : Int32)) C dX5_add_23 (by decide) ?_
        refine q_icmp_lt (pc := 25) (tgt := 29) C dX5_add_25 (by decide) (fun c4 => ?_) (fun c4 => ?_)
        · replace hm := hm_t c4 hm
          refine q_aload_n (pc := 29) C dX5_add_29 rfl 0 rfl ?_
          refine q_get (pc := 30) (T := TX5) (v := .ref (gad G 26)) C (by decide) (ce_24 _ _ _) (ci := 5) rfl inlX5 (j := 1) (by decide) rfl tw_50 (Or.inl rfl) dX5_add_30 ?_
          refine q_iload_n (pc := 33) C dX5_add_33 rfl 1 rfl ?_
          refine q_iconst (pc := 34) (v := (1 : Int32)) C dX5_add_34 (by decide) ?_
          obtain ⟨b2, hm⟩ := oi_some hm
          refine q_zast1 (pc := 35) C (by decide) (fun _ => ce_26 _ _ _) (ty_26 _) b2 dX5_add_35 ?_
          refine q_aload_n (pc := 36) C dX5_add_36 rfl 0 rfl ?_
          refine q_get (pc := 37) (T := TX5) (v := .ref (gad G 25)) C (by decide) (ce_24 _ _ _) (ci := 5) rfl inlX5 (j := 0) (by decide) rfl tw_49 (Or.inl rfl) dX5_add_37 ?_
          refine q_aload_n (pc := 40) C dX5_add_40 rfl 0 rfl ?_
          refine q_get (pc := 41) (T := TX5) (v := .int (S 24 2)) C (by decide) (ce_24 _ _ _) (ci := 5) rfl inlX5 (j := 2) (by decide) rfl tw_127 (Or.inl rfl) dX5_add_41 ?_
          refine q_iload_n (pc := 44) C dX5_add_44 rfl 1 rfl ?_
          obtain ⟨b3, hm⟩ := oi_some hm
          refine q_iast (pc := 45) C (by decide) (fun _ => ce_25 _ _ _) (ty_25 _) b3 dX5_add_45 ?_
          refine q_aload_n (pc := 46) C dX5_add_46 rfl 0 rfl ?_
          refine q_dup (pc := 47) C dX5_add_47 rfl ?_
          refine q_get (pc := 48) (T := TX5) (v := .int (S 24 2)) C (by decide) (ce_24 _ _ _) (ci := 5) rfl inlX5 (j := 2) (by decide) rfl tw_127 (Or.inl rfl) dX5_add_48 ?_
          refine q_iconst (pc := 51) (v := (1 : Int32)) C dX5_add_51 (by decide) ?_
          refine q_iadd (pc := 52) C dX5_add_52 ?_
          refine q_put (pc := 53) (T := TX5) (ty := .int) C tyX5 tyX5_ok nmX5 (by decide) (ce_24 _ _ _) (pe_24_2 _ _ _ _) (ci := 5) rfl inlX5 (j := 2) (by decide) (Nat.le_of_ble_eq_true rfl) tw_127 (Or.inl rfl) rfl (by decide +kernel) rfl rfl dX5_add_53 ?_
          cases hm
          exact q_vret (pc := 56) C dX5_add_56
        · replace hm := hm_f c4 hm
          cases hm
          exact q_vret (pc := 28) C dX5_add_28
set_option maxRecDepth 100000 in
theorem c_Nur_putOld {G : Gx} (hi : qinj (gad G)) {S : St} {a1 : Int32} {zS : St} (hm : m_Nur_putOld S a1 = some zS) : QMet G yX4_putOld cX4_putOld 2 none 2 43 [.ref (gad G 18), .int a1] S none zS := by
  refine q_entry (by decide +kernel) rfl hi (Nat.le_of_ble_eq_true rfl) ?_
  intro X C
  refine q_lv (lv' := [(0, .ref (gad G 18)), (1, .int a1)]) [0, 1] rfl ?_
  unfold m_Nur_putOld at hm
  refine q_aload_n (pc := 0) C dX4_putOld_0 rfl 0 rfl ?_
  refine q_get (pc := 1) (T := TX4) (v := .ref (gad G 24)) C (by decide) (ce_18 _ _ _) (ci := 4) rfl inlX4 (j := 12) (by decide) rfl tw_56 (Or.inl rfl) dX4_putOld_1 ?_
  refine q_iload_n (pc := 4) C dX4_putOld_4 rfl 1 rfl ?_
  obtain ⟨S1, h1, hm⟩ := o1_some hm
  refine q_callV (pc := 5) (k := 24) (As := [.int a1]) (rest := []) (T := TX5) C (c_Row_add_24 hi h1) (by decide) (ce_24 _ _ _) (ci := 5) rfl tw_544 tw_267 tw_268 tw_43 tw_269 (nA := 1) (by decide +kernel) rfl (by decide) (Nat.le_of_ble_eq_true rfl) rfl dX4_putOld_5 ?_
  refine q_aload_n (pc := 8) C dX4_putOld_8 rfl 0 rfl ?_
  refine q_iload_n (pc := 9) C dX4_putOld_9 rfl 1 rfl ?_
  refine q_aload_n (pc := 10) C dX4_putOld_10 rfl 0 rfl ?_
  refine q_get (pc := 11) (T := TX4) (v := .int (S1 18 16)) C (by decide) (ce_18 _ _ _) (ci := 4) rfl inlX4 (j := 16) (by decide) rfl tw_59 (Or.inl rfl) dX4_putOld_11 ?_
  obtain ⟨S2, h2, hm⟩ := o1_some hm
  refine q_callU (pc := 14) (k := 18) (As := [.int a1, .int (S1 18 16)]) (rest := []) (T := TX4) (owner := "Tessera$Store") (x := ⟨"Tessera$Nursery", "put", "(II)V"⟩) C (c_St_put_18 hi h2) (by decide) (ce_18 _ _ _) (ci := 4) rfl (Or.inl rfl) tw_554 tw_555 tw_297 tw_556 tw_62 tw_298 (nA := 2) (by decide +kernel) rfl (by decide) (Nat.le_of_ble_eq_true rfl) rfl dX4_putOld_14 ?_
  refine q_aload_n (pc := 17) C dX4_putOld_17 rfl 0 rfl ?_
  refine q_dup (pc := 18) C dX4_putOld_18 rfl ?_
  refine q_get (pc := 19) (T := TX4) (v := .int (S2 18 16)) C (by decide) (ce_18 _ _ _) (ci := 4) rfl inlX4 (j := 16) (by decide) rfl tw_59 (Or.inl rfl) dX4_putOld_19 ?_
  refine q_aload_n (pc := 22) C dX4_putOld_22 rfl 0 rfl ?_
  refine q_get (pc := 23) (T := TX4) (v := .ref (gad G 1)) C (by decide) (ce_18 _ _ _) (ci := 4) rfl inlX4 (j := 0) (by decide) rfl tw_484 (Or.inr tw_485) dX4_putOld_23 ?_
  refine q_iload_n (pc := 26) C dX4_putOld_26 rfl 1 rfl ?_
  obtain ⟨r1, h3, hm⟩ := o1_some hm
  refine q_callV (pc := 27) (k := 1) (As := [.int a1]) (rest := [.int (S2 18 16), .ref (gad G 18)]) (T := TX2) C (c_Gr_wordsOf hi h3) (by decide) (ce_1 _ _ _) (ci := 2) rfl tw_488 tw_229 tw_230 tw_13 tw_231 (nA := 1) (by decide +kernel) rfl (by decide) (Nat.le_of_ble_eq_true rfl) rfl dX4_putOld_27 ?_
  refine q_iadd (pc := 30) C dX4_putOld_30 ?_
  refine q_put (pc := 31) (T := TX4) (ty := .int) C tyX4 tyX4_ok nmX4 (by decide) (ce_18 _ _ _) (pe_18_16 _ _ _ _) (ci := 4) rfl inlX4 (j := 16) (by decide) (Nat.le_of_ble_eq_true rfl) tw_59 (Or.inl rfl) rfl (by decide +kernel) rfl rfl dX4_putOld_31 ?_
  cases hm
  exact q_vret (pc := 34) C dX4_putOld_34
set_option maxRecDepth 100000 in
theorem c_St_breakDown_Nur_18 {G : Gx} (hi : qinj (gad G)) {S : St}  {zS : St} (hm : m_St_breakDown_Nur S  = some zS) : QMet G yX7_breakDown cX7_breakDown 1 none 2 41 [.ref (gad G 18)] S none zS := by
  refine q_entry (by decide +kernel) rfl hi (Nat.le_of_ble_eq_true rfl) ?_
  intro X C
  refine q_lv (lv' := [(0, .ref (gad G 18))]) [0] rfl ?_
  unfold m_St_breakDown_Nur at hm
  refine q_aload_n (pc := 0) C dX7_breakDown_0 rfl 0 rfl ?_
  refine q_iconst (pc := 1) (v := (1 : Int32)) C dX7_breakDown_1 (by decide) ?_
  refine q_put (pc := 2) (T := TX4) (ty := .boolean) C tyX4 tyX4_ok nmX4 (by decide) (ce_18 _ _ _) (pe_18_5 _ _ _ _) (ci := 4) rfl inlX4 (j := 5) (by decide) (Nat.le_of_ble_eq_true rfl) tw_136 (Or.inl rfl) rfl (by decide +kernel) (by decide) (by decide) dX7_breakDown_2 ?_
  refine q_aload_n (pc := 5) C dX7_breakDown_5 rfl 0 rfl ?_
  obtain ⟨S1, h1, hm⟩ := o1_some hm
  refine q_callU (pc := 6) (k := 18) (As := []) (rest := []) (T := TX4) (owner := "Tessera$Store") (x := ⟨"Tessera$Store", "letAllGo", "()V"⟩) C (c_St_letAllGo_18 hi h1) (by decide) (ce_18 _ _ _) (ci := 4) rfl (Or.inl rfl) tw_138 tw_139 tw_141 tw_145 tw_62 tw_142 (nA := 0) (by decide +kernel) rfl (by decide) (Nat.le_of_ble_eq_true rfl) rfl dX7_breakDown_6 ?_
  refine q_aload_n (pc := 9) C dX7_breakDown_9 rfl 0 rfl ?_
  obtain ⟨S2, h2, hm⟩ := o1_some hm
  refine q_callU (pc := 10) (k := 18) (As := []) (rest := []) (T := TX4) (owner := "Tessera$Store") (x := ⟨"Tessera$Store", "forgetThings", "()V"⟩) C (c_Nur_forgetThings hi h2) (by decide) (ce_18 _ _ _) (ci := 4) rfl (Or.inr (Or.inl (by decide))) tw_146 tw_147 tw_163 tw_162 tw_16 tw_164 (nA := 0) (by decide +kernel) rfl (by decide) (Nat.le_of_ble_eq_true rfl) rfl dX7_breakDown_10 ?_
  cases hm
  exact q_vret (pc := 13) C dX7_breakDown_13
set_option maxRecDepth 100000 in
theorem w_Nur_collectNow_L32 {G : Gx} (hi : qinj (gad G)) {X : Cx} (C : QC G X cX4_collectNow 3 RX4 3 64 (some .int)) {Q : State → Prop} : ∀ (n : Nat) (S : St) (v1 : Int32) (v2 : Int32) (zS : St), m_Nur_collectNow_L32 n S v2 = some zS → QW G X 3 Q 85 [(0, .ref (gad G 18)), (1, .int v1)] [] zS → QW G X 3 Q 32 [(0, .ref (gad G 18)), (1, .int v1), (2, .int v2)] [] S := by
  intro n
  induction n with
  | zero =>
    intro S v1 v2 zS hm kk
    rw [m_Nur_collectNow_L32] at hm
    cases hm
  | succ n ih =>
    intro S v1 v2 zS hm kk
    rw [m_Nur_collectNow_L32] at hm
    refine q_iload_n (pc := 32) C dX4_collectNow_32 rfl 2 rfl ?_
    refine q_aload_n (pc := 33) C dX4_collectNow_33 rfl 0 rfl ?_
    refine q_get (pc := 34) (T := TX4) (v := .ref (gad G 27)) C (by decide) (ce_18 _ _ _) (ci := 4) rfl inlX4 (j := 13) (by decide) rfl tw_57 (Or.inl rfl) dX4_collectNow_34 ?_
    refine q_get (pc := 37) (T := TX5) (v := .int (S 27 2)) C (by decide) (ce_27 _ _ _) (ci := 5) rfl inlX5 (j := 2) (by decide) rfl tw_497 (Or.inl rfl) dX4_collectNow_37 ?_
    refine q_icmp_ge (pc := 40) (tgt := 85) C dX4_collectNow_40 (by decide) (fun c1 => ?_) (fun c1 => ?_)
    · replace hm := hm_t c1 hm
      cases hm
      refine q_lv (lv' := [(0, .ref (gad G 18)), (1, .int v1)]) [0, 1] rfl ?_
      exact kk
    · replace hm := hm_f c1 hm
      refine q_aload_n (pc := 43) C dX4_collectNow_43 rfl 0 rfl ?_
      refine q_aload_n (pc := 44) C dX4_collectNow_44 rfl 0 rfl ?_
      refine q_get (pc := 45) (T := TX4) (v := .ref (gad G 27)) C (by decide) (ce_18 _ _ _) (ci := 4) rfl inlX4 (j := 13) (by decide) rfl tw_57 (Or.inl rfl) dX4_collectNow_45 ?_
      refine q_iload_n (pc := 48) C dX4_collectNow_48 rfl 2 rfl ?_
      obtain ⟨r1, h1, hm⟩ := o1_some hm
      refine q_callV (pc := 49) (k := 27) (As := [.int v2]) (rest := [.ref (gad G 18)]) (T := TX5) C (c_Row_get_27 hi h1) (by decide) (ce_27 _ _ _) (ci := 5) rfl tw_502 tw_271 tw_272 tw_43 tw_273 (nA := 1) (by decide +kernel) rfl (by decide) (Nat.le_of_ble_eq_true rfl) rfl dX4_collectNow_49 ?_
      obtain ⟨S1, h2, hm⟩ := o1_some hm
      refine q_callV (pc := 52) (k := 18) (As := [.int r1]) (rest := []) (T := TX4) C (c_Nur_putOld hi h2) (by decide) (ce_18 _ _ _) (ci := 4) rfl tw_550 tw_551 tw_552 tw_16 tw_553 (nA := 1) (by decide +kernel) rfl (by decide) (Nat.le_of_ble_eq_true rfl) rfl dX4_collectNow_52 ?_
      refine q_aload_n (pc := 55) C dX4_collectNow_55 rfl 0 rfl ?_
      refine q_dup (pc := 56) C dX4_collectNow_56 rfl ?_
      refine q_get (pc := 57) (T := TX4) (v := .int (S1 18 2)) C (by decide) (ce_18 _ _ _) (ci := 4) rfl inlX4 (j := 2) (by decide) rfl tw_512 (Or.inr tw_513) dX4_collectNow_57 ?_
      refine q_aload_n (pc := 60) C dX4_collectNow_60 rfl 0 rfl ?_
      refine q_get (pc := 61) (T := TX4) (v := .ref (gad G 1)) C (by decide) (ce_18 _ _ _) (ci := 4) rfl inlX4 (j := 0) (by decide) rfl tw_484 (Or.inr tw_485) dX4_collectNow_61 ?_
      refine q_aload_n (pc := 64) C dX4_collectNow_64 rfl 0 rfl ?_
      refine q_get (pc := 65) (T := TX4) (v := .ref (gad G 27)) C (by decide) (ce_18 _ _ _) (ci := 4) rfl inlX4 (j := 13) (by decide) rfl tw_57 (Or.inl rfl) dX4_collectNow_65 ?_
      refine q_iload_n (pc := 68) C dX4_collectNow_68 rfl 2 rfl ?_
      obtain ⟨r2, h3, hm⟩ := o1_some hm
      refine q_callV (pc := 69) (k := 27) (As := [.int v2]) (rest := [.ref (gad G 1), .int (S1 18 2), .ref (gad G 18)]) (T := TX5) C (c_Row_get_27 hi h3) (by decide) (ce_27 _ _ _) (ci := 5) rfl tw_502 tw_271 tw_272 tw_43 tw_273 (nA := 1) (by decide +kernel) rfl (by decide) (Nat.le_of_ble_eq_true rfl) rfl dX4_collectNow_69 ?_
      obtain ⟨r3, h4, hm⟩ := o1_some hm
      refine q_callV (pc := 72) (k := 1) (As := [.int r2]) (rest := [.int (S1 18 2), .ref (gad G 18)]) (T := TX2) C (c_Gr_wordsOf hi h4) (by decide) (ce_1 _ _ _) (ci := 2) rfl tw_488 tw_229 tw_230 tw_13 tw_231 (nA := 1) (by decide +kernel) rfl (by decide) (Nat.le_of_ble_eq_true rfl) rfl dX4_collectNow_72 ?_
      refine q_iadd (pc := 75) C dX4_collectNow_75 ?_
      refine q_put (pc := 76) (T := TX4) (ty := .int) C tyX4 tyX4_ok nmX4 (by decide) (ce_18 _ _ _) (pe_18_2 _ _ _ _) (ci := 4) rfl inlX4 (j := 2) (by decide) (Nat.le_of_ble_eq_true rfl) tw_512 (Or.inr tw_513) rfl (by decide +kernel) rfl rfl dX4_collectNow_76 ?_
      refine q_iinc (pc := 79) (k := 2) (v := (v2 + (1 : Int32))) (lv' := [(2, .int (v2 + (1 : Int32))), (0, .ref (gad G 18)), (1, .int v1)]) C dX4_collectNow_79 rfl rfl (by decide) rfl ?_
      refine q_goto (pc := 82) (tgt := 32) C dX4_collectNow_82 (by decide) ?_
      refine q_lv (lv' := [(0, .ref (gad G 18)), (1, .int v1), (2, .int (v2 + (1 : Int32)))]) [1, 2, 0] rfl ?_
      exact ih _ _ _ _ hm kk
set_option maxRecDepth 100000 in
theorem c_Nur_collectNow {G : Gx} (hi : qinj (gad G)) {S : St}  {zr : Int32} {zS : St} (hm : m_Nur_collectNow S  = some (zr, zS)) : QMet G yX4_collectNow cX4_collectNow 3 (some .int) 3 64 [.ref (gad G 18)] S (some (.int zr)) zS := by
  refine q_entry (by decide +kernel) rfl hi (Nat.le_of_ble_eq_true rfl) ?_
  intro X C
  refine q_lv (lv' := [(0, .ref (gad G 18))]) [0] rfl ?_
  unfold m_Nur_collectNow at hm
  refine q_aload_n (pc := 0) C dX4_collectNow_0 rfl 0 rfl ?_
  obtain ⟨r1, h1, hm⟩ := o1_some hm
  refine q_callV (pc := 1) (k := 18) (As := []) (rest := []) (T := TX4) C (c_Nur_greatFits hi h1) (by decide) (ce_18 _ _ _) (ci := 4) rfl tw_516 tw_517 tw_518 tw_16 tw_519 (nA := 0) (by decide +kernel) rfl (by decide) (Nat.le_of_ble_eq_true rfl) rfl dX4_collectNow_1 ?_
  refine q_if_ne (pc := 4) (tgt := 13) C dX4_collectNow_4 (by decide) (fun c1 => ?_) (fun c1 => ?_)
  · replace hm := hm_f c1 hm
    refine q_aload_n (pc := 13) C dX4_collectNow_13 rfl 0 rfl ?_
    obtain ⟨r2, h2, hm⟩ := o1_some hm
    refine q_callU (pc := 14) (k := 18) (As := []) (rest := []) (T := TX4) (owner := "Tessera$Store") (x := ⟨"Tessera$Nursery", "countHad", "()I"⟩) C (c_St_countHad_18 hi h2) (by decide) (ce_18 _ _ _) (ci := 4) rfl (Or.inl rfl) tw_532 tw_533 tw_250 tw_534 tw_62 tw_251 (nA := 0) (by decide +kernel) rfl (by decide) (Nat.le_of_ble_eq_true rfl) rfl dX4_collectNow_14 ?_
    refine q_istore_n (pc := 17) (lv' := [(1, .int r2), (0, .ref (gad G 18))]) C dX4_collectNow_17 rfl (by decide) rfl ?_
    refine q_aload_n (pc := 18) C dX4_collectNow_18 rfl 1 rfl ?_
    obtain ⟨S1, h3, hm⟩ := o1_some hm
    refine q_callV (pc := 19) (k := 18) (As := []) (rest := []) (T := TX4) C (c_Nur_findReached hi h3) (by decide) (ce_18 _ _ _) (ci := 4) rfl tw_535 tw_536 tw_537 tw_16 tw_538 (nA := 0) (by decide +kernel) rfl (by decide) (Nat.le_of_ble_eq_true rfl) rfl dX4_collectNow_19 ?_
    refine q_aload_n (pc := 22) C dX4_collectNow_22 rfl 1 rfl ?_
    obtain ⟨S2, h4, hm⟩ := o1_some hm
    refine q_callU (pc := 23) (k := 18) (As := []) (rest := []) (T := TX4) (owner := "Tessera$Store") (x := ⟨"Tessera$Nursery", "letAllGo", "()V"⟩) C (c_St_letAllGo_18 hi h4) (by decide) (ce_18 _ _ _) (ci := 4) rfl (Or.inl rfl) tw_545 tw_546 tw_141 tw_547 tw_62 tw_142 (nA := 0) (by decide +kernel) rfl (by decide) (Nat.le_of_ble_eq_true rfl) rfl dX4_collectNow_23 ?_
    refine q_aload_n (pc := 26) C dX4_collectNow_26 rfl 1 rfl ?_
    obtain ⟨S3, h5, hm⟩ := o1_some hm
    refine q_callV (pc := 27) (k := 18) (As := []) (rest := []) (T := TX4) C (c_Nur_forgetThings hi h5) (by decide) (ce_18 _ _ _) (ci := 4) rfl tw_548 tw_163 tw_549 tw_16 tw_164 (nA := 0) (by decide +kernel) rfl (by decide) (Nat.le_of_ble_eq_true rfl) rfl dX4_collectNow_27 ?_
    refine q_iconst (pc := 30) (v := (0 : Int32)) C dX4_collectNow_30 (by decide) ?_
    refine q_istore_n (pc := 31) (lv' := [(2, .int (0 : Int32)), (1, .int r2), (0, .ref (gad G 18))]) C dX4_collectNow_31 rfl (by decide) rfl ?_
    refine q_lv (lv' := [(0, .ref (gad G 18)), (1, .int r2), (2, .int (0 : Int32))]) [2, 1, 0] rfl ?_
    obtain ⟨S4, h6, hm⟩ := o1_some hm
    refine w_Nur_collectNow_L32 hi C 200 _ _ _ _ h6 ?_
    refine q_aload_n (pc := 85) C dX4_collectNow_85 rfl 0 rfl ?_
    refine q_dup (pc := 86) C dX4_collectNow_86 rfl ?_
    refine q_get (pc := 87) (T := TX4) (v := .int (S4 18 4)) C (by decide) (ce_18 _ _ _) (ci := 4) rfl inlX4 (j := 4) (by decide) rfl tw_514 (Or.inr tw_515) dX4_collectNow_87 ?_
    refine q_iconst (pc := 90) (v := (1 : Int32)) C dX4_collectNow_90 (by decide) ?_
    refine q_iadd (pc := 91) C dX4_collectNow_91 ?_
    refine q_put (pc := 92) (T := TX4) (ty := .int) C tyX4 tyX4_ok nmX4 (by decide) (ce_18 _ _ _) (pe_18_4 _ _ _ _) (ci := 4) rfl inlX4 (j := 4) (by decide) (Nat.le_of_ble_eq_true rfl) tw_514 (Or.inr tw_515) rfl (by decide +kernel) rfl rfl dX4_collectNow_92 ?_
    refine q_iload_n (pc := 95) C dX4_collectNow_95 rfl 1 rfl ?_
    refine q_aload_n (pc := 96) C dX4_collectNow_96 rfl 0 rfl ?_
    refine q_get (pc := 97) (T := TX4) (v := .ref (gad G 27)) C (by decide) (ce_18 _ _ _) (ci := 4) rfl inlX4 (j := 13) (by decide) rfl tw_57 (Or.inl rfl) dX4_collectNow_97 ?_
    refine q_get (pc := 100) (T := TX5) (v := .int (S4 27 2)) C (by decide) (ce_27 _ _ _) (ci := 5) rfl inlX5 (j := 2) (by decide) rfl tw_497 (Or.inl rfl) dX4_collectNow_100 ?_
    refine q_isub (pc := 103) C dX4_collectNow_103 ?_
    cases hm
    exact q_iret (pc := 104) C dX4_collectNow_104
  · replace hm := hm_t c1 hm
    refine q_aload_n (pc := 7) C dX4_collectNow_7 rfl 0 rfl ?_
    obtain ⟨S5, h7, hm⟩ := o1_some hm
    refine q_callU (pc := 8) (k := 18) (As := []) (rest := []) (T := TX4) (owner := "Tessera$Store") (x := ⟨"Tessera$Nursery", "breakDown", "()V"⟩) C (c_St_breakDown_Nur_18 hi h7) (by decide) (ce_18 _ _ _) (ci := 4) rfl (Or.inl rfl) tw_529 tw_530 tw_306 tw_531 tw_62 tw_307 (nA := 0) (by decide +kernel) rfl (by decide) (Nat.le_of_ble_eq_true rfl) rfl dX4_collectNow_8 ?_
    refine q_iconst (pc := 11) (v := (0 : Int32)) C dX4_collectNow_11 (by decide) ?_
    cases hm
    exact q_iret (pc := 12) C dX4_collectNow_12
set_option maxRecDepth 100000 in
theorem c_Nur_isGrown {G : Gx} (hi : qinj (gad G)) {S : St} {a1 : Int32} {zr : Int32} (hm : m_Nur_isGrown S a1 = some zr) : QMet G yX4_isGrown cX4_isGrown 2 (some .boolean) 1 21 [.ref (gad G 18), .int a1] S (some (.int zr)) S := by
  refine q_entry (by decide +kernel) rfl hi (Nat.le_of_ble_eq_true rfl) ?_
  intro X C
  refine q_lv (lv' := [(0, .ref (gad G 18)), (1, .int a1)]) [0, 1] rfl ?_
  unfold m_Nur_isGrown at hm
  refine q_aload_n (pc := 0) C dX4_isGrown_0 rfl 0 rfl ?_
  refine q_get (pc := 1) (T := TX4) (v := .ref (gad G 1)) C (by decide) (ce_18 _ _ _) (ci := 4) rfl inlX4 (j := 0) (by decide) rfl tw_484 (Or.inr tw_485) dX4_isGrown_1 ?_
  refine q_iload_n (pc := 4) C dX4_isGrown_4 rfl 1 rfl ?_
  obtain ⟨r1, h1, hm⟩ := o1_some hm
  refine q_callV (pc := 5) (k := 1) (As := [.int a1]) (rest := []) (T := TX2) C (c_Gr_isThing hi h1) (by decide) (ce_1 _ _ _) (ci := 2) rfl tw_507 tw_300 tw_301 tw_13 tw_302 (nA := 1) (by decide +kernel) rfl (by decide) (Nat.le_of_ble_eq_true rfl) rfl dX4_isGrown_5 ?_
  refine q_if_eq (pc := 8) (tgt := 24) C dX4_isGrown_8 (by decide) (fun c1 => ?_) (fun c1 => ?_)
  · replace hm := hm_t c1 hm
    refine q_iconst (pc := 24) (v := (0 : Int32)) C dX4_isGrown_24 (by decide) ?_
    cases hm
    exact q_zret (pc := 25) C (by decide) dX4_isGrown_25
  · replace hm := hm_f c1 hm
    refine q_aload_n (pc := 11) C dX4_isGrown_11 rfl 0 rfl ?_
    refine q_get (pc := 12) (T := TX4) (v := .ref (gad G 30)) C (by decide) (ce_18 _ _ _) (ci := 4) rfl inlX4 (j := 14) (by decide) rfl tw_58 (Or.inl rfl) dX4_isGrown_12 ?_
    refine q_iload_n (pc := 15) C dX4_isGrown_15 rfl 1 rfl ?_
    obtain ⟨b1, hm⟩ := oi_some hm
    refine q_zald (pc := 16) C (by decide) (ce_30 _ _ _) (ty_30 _) b1 dX4_isGrown_16 ?_
    refine q_if_eq (pc := 17) (tgt := 24) C dX4_isGrown_17 (by decide) (fun c2 => ?_) (fun c2 => ?_)
    · replace hm := hm_t c2 hm
      refine q_iconst (pc := 24) (v := (0 : Int32)) C dX4_isGrown_24 (by decide) ?_
      cases hm
      exact q_zret (pc := 25) C (by decide) dX4_isGrown_25
    · replace hm := hm_f c2 hm
      refine q_iconst (pc := 20) (v := (1 : Int32)) C dX4_isGrown_20 (by decide) ?_
      refine q_goto (pc := 21) (tgt := 25) C dX4_isGrown_21 (by decide) ?_
      cases hm
      exact q_zret (pc := 25) C (by decide) dX4_isGrown_25
