set_option maxRecDepth 100000 in
theorem w_Te_digest_L16 {G : Gx} (hi : qinj (gad G)) {X : Cx} (C : QC G X cX8_digest 5 RX8 6 133 (some .long)) {Q : State → Prop} : ∀ (n : Nat) (S : St) (v1 : Int64) (v3 : Int32) (x1 : Int64), m_Te_digest_L16 n S v1 v3 = some x1 → QW G X 5 Q 40 [(0, .ref (gad G 0)), (1, .long x1)] [] S → QW G X 5 Q 16 [(0, .ref (gad G 0)), (1, .long v1), (3, .int v3)] [] S := by
  intro n
  induction n with
  | zero =>
    intro S v1 v3 x1 hm kk
    rw [m_Te_digest_L16] at hm
    cases hm
  | succ n ih =>
    intro S v1 v3 x1 hm kk
    rw [m_Te_digest_L16] at hm
    refine q_iload_n (pc := 16) C dX8_digest_16 rfl 2 rfl ?_
    refine q_aload_n (pc := 17) C dX8_digest_17 rfl 0 rfl ?_
    refine q_get (pc := 18) (T := TX8) (v := .ref (gad G 1)) C (by decide) (ce_0 _ _ _) (ci := 6) rfl inlX8 (j := 0) (by decide) rfl tw_27 (Or.inl rfl) dX8_digest_18 ?_
    refine q_get (pc := 21) (T := TX2) (v := .int (S 1 6)) C (by decide) (ce_1 _ _ _) (ci := 2) rfl inlX2 (j := 6) (by decide) rfl tw_192 (Or.inl rfl) dX8_digest_21 ?_
    refine q_icmp_ge (pc := 24) (tgt := 40) C dX8_digest_24 (by decide) (fun c1 => ?_) (fun c1 => ?_)
    · replace hm := hm_t c1 hm
      cases hm
      refine q_lv (lv' := [(0, .ref (gad G 0)), (1, .long v1)]) [0, 1] rfl ?_
      exact kk
    · replace hm := hm_f c1 hm
      refine q_aload_n (pc := 27) C dX8_digest_27 rfl 0 rfl ?_
      refine q_lload_n (pc := 28) C dX8_digest_28 rfl 1 rfl ?_
      refine q_iload_n (pc := 29) C dX8_digest_29 rfl 2 rfl ?_
      obtain ⟨r1, h1, hm⟩ := o1_some hm
      refine q_callV (pc := 30) (k := 0) (As := [.long v1, .int v3]) (rest := []) (T := TX8) C (c_Te_mixedThing hi h1) (by decide) (ce_0 _ _ _) (ci := 6) rfl tw_791 tw_792 tw_793 tw_2 tw_794 (nA := 2) (by decide +kernel) rfl (by decide) (Nat.le_of_ble_eq_true rfl) rfl dX8_digest_30 ?_
      refine q_lstore_n (pc := 33) (lv' := [(1, .long r1), (0, .ref (gad G 0)), (3, .int v3)]) C dX8_digest_33 rfl (by decide) rfl ?_
      refine q_iinc (pc := 34) (k := 2) (v := (v3 + (1 : Int32))) (lv' := [(3, .int (v3 + (1 : Int32))), (1, .long r1), (0, .ref (gad G 0))]) C dX8_digest_34 rfl rfl (by decide) rfl ?_
      refine q_goto (pc := 37) (tgt := 16) C dX8_digest_37 (by decide) ?_
      refine q_lv (lv' := [(0, .ref (gad G 0)), (1, .long r1), (3, .int (v3 + (1 : Int32)))]) [2, 1, 0] rfl ?_
      exact ih _ _ _ _ hm kk
set_option maxRecDepth 100000 in
theorem c_Te_digest {G : Gx} (hi : qinj (gad G)) {S : St}  {zr : Int64} {zS : St} (hm : m_Te_digest S  = some (zr, zS)) : QMet G yX8_digest cX8_digest 5 (some .long) 6 133 [.ref (gad G 0)] S (some (.long zr)) zS := by
  refine q_entry (by decide +kernel) rfl hi (Nat.le_of_ble_eq_true rfl) ?_
  intro X C
  refine q_lv (lv' := [(0, .ref (gad G 0))]) [0] rfl ?_
  unfold m_Te_digest at hm
  refine q_ldc2 (pc := 0) (v := 58088) C tw_786 dX8_digest_0 ?_
  refine q_aload_n (pc := 3) C dX8_digest_3 rfl 0 rfl ?_
  refine q_get (pc := 4) (T := TX8) (v := .ref (gad G 1)) C (by decide) (ce_0 _ _ _) (ci := 6) rfl inlX8 (j := 0) (by decide) rfl tw_27 (Or.inl rfl) dX8_digest_4 ?_
  refine q_get (pc := 7) (T := TX2) (v := .int (S 1 6)) C (by decide) (ce_1 _ _ _) (ci := 2) rfl inlX2 (j := 6) (by decide) rfl tw_192 (Or.inl rfl) dX8_digest_7 ?_
  obtain ⟨r1, h1, hm⟩ := o1_some hm
  refine q_callS (pc := 10) (As := [.long (58088 : Int64), .int (S 1 6)]) (rest := []) C (c_Te_mixed hi h1) tw_787 tw_788 tw_2 tw_789 (nA := 2) (by decide +kernel) rfl (by decide) (Nat.le_of_ble_eq_true rfl) rfl dX8_digest_10 ?_
  refine q_lstore_n (pc := 13) (lv' := [(1, .long r1), (0, .ref (gad G 0))]) C dX8_digest_13 rfl (by decide) rfl ?_
  refine q_iconst (pc := 14) (v := (0 : Int32)) C dX8_digest_14 (by decide) ?_
  refine q_istore_n (pc := 15) (lv' := [(3, .int (0 : Int32)), (1, .long r1), (0, .ref (gad G 0))]) C dX8_digest_15 rfl (by decide) rfl ?_
  refine q_lv (lv' := [(0, .ref (gad G 0)), (1, .long r1), (3, .int (0 : Int32))]) [2, 1, 0] rfl ?_
  obtain ⟨y1, h2, hm⟩ := o1_some hm
  refine w_Te_digest_L16 hi C 200 _ _ _ _ h2 ?_
  refine q_iconst (pc := 40) (v := (0 : Int32)) C dX8_digest_40 (by decide) ?_
  refine q_istore_n (pc := 41) (lv' := [(3, .int (0 : Int32)), (0, .ref (gad G 0)), (1, .long y1)]) C dX8_digest_41 rfl (by decide) rfl ?_
  refine q_iload_n (pc := 42) C dX8_digest_42 rfl 0 rfl ?_
  refine q_iconst (pc := 43) (v := (4 : Int32)) C dX8_digest_43 (by decide) ?_
  refine q_icmp_ge (pc := 44) (tgt := 101) C dX8_digest_44 (by decide) (fun c => absurd c (by decide)) (fun _ => ?_)
  refine q_iconst (pc := 47) (v := (0 : Int32)) C dX8_digest_47 (by decide) ?_
  refine q_istore (pc := 48) (lv' := [(4, .int (0 : Int32)), (3, .int (0 : Int32)), (0, .ref (gad G 0)), (1, .long y1)]) C dX8_digest_48 (by decide) rfl ?_
  refine q_iload (pc := 50) C dX8_digest_50 0 rfl ?_
  refine q_bipush (pc := 52) (v := (7 : Int32)) C dX8_digest_52 (by decide) ?_
  refine q_icmp_gt (pc := 54) (tgt := 75) C dX8_digest_54 (by decide) (fun c => absurd c (by decide)) (fun _ => ?_)
  refine q_lload_n (pc := 57) C dX8_digest_57 rfl 3 rfl ?_
  refine q_aload_n (pc := 58) C dX8_digest_58 rfl 2 rfl ?_
  refine q_iload_n (pc := 59) C dX8_digest_59 rfl 1 rfl ?_
  refine q_iload (pc := 60) C dX8_digest_60 0 rfl ?_
  obtain ⟨r2, S1, h3, hm⟩ := ob_some hm
  refine q_callV (pc := 62) (k := 0) (As := [.int (0 : Int32), .int (0 : Int32)]) (rest := [.long y1]) (T := TX8) C (c_Te_told hi h3) (by decide) (ce_0 _ _ _) (ci := 6) rfl tw_797 tw_710 tw_711 tw_2 tw_712 (nA := 2) (by decide +kernel) rfl (by decide) (Nat.le_of_ble_eq_true rfl) rfl dX8_digest_62 ?_
  obtain ⟨r3, h4, hm⟩ := o1_some hm
  refine q_callS (pc := 65) (As := [.long y1, .int r2]) (rest := []) C (c_Te_mixed hi h4) tw_787 tw_788 tw_2 tw_789 (nA := 2) (by decide +kernel) rfl (by decide) (Nat.le_of_ble_eq_true rfl) rfl dX8_digest_65 ?_
  refine q_lstore_n (pc := 68) (lv' := [(1, .long r3), (4, .int (0 : Int32)), (3, .int (0 : Int32)), (0, .ref (gad G 0))]) C dX8_digest_68 rfl (by decide) rfl ?_
  refine q_iinc (pc := 69) (k := 1) (v := (1 : Int32)) (lv' := [(4, .int (1 : Int32)), (1, .long r3), (3, .int (0 : Int32)), (0, .ref (gad G 0))]) C dX8_digest_69 rfl (by decide) (by decide) rfl ?_
  refine q_goto (pc := 72) (tgt := 50) C dX8_digest_72 (by decide) ?_
  refine q_iload (pc := 50) C dX8_digest_50 0 rfl ?_
  refine q_bipush (pc := 52) (v := (7 : Int32)) C dX8_digest_52 (by decide) ?_
  refine q_icmp_gt (pc := 54) (tgt := 75) C dX8_digest_54 (by decide) (fun c => absurd c (by decide)) (fun _ => ?_)
  refine q_lload_n (pc := 57) C dX8_digest_57 rfl 1 rfl ?_
  refine q_aload_n (pc := 58) C dX8_digest_58 rfl 3 rfl ?_
  refine q_iload_n (pc := 59) C dX8_digest_59 rfl 2 rfl ?_
  refine q_iload (pc := 60) C dX8_digest_60 0 rfl ?_
  obtain ⟨r4, S2, h5, hm⟩ := ob_some hm
  refine q_callV (pc := 62) (k := 0) (As := [.int (0 : Int32), .int (1 : Int32)]) (rest := [.long r3]) (T := TX8) C (c_Te_told hi h5) (by decide) (ce_0 _ _ _) (ci := 6) rfl tw_797 tw_710 tw_711 tw_2 tw_712 (nA := 2) (by decide +kernel) rfl (by decide) (Nat.le_of_ble_eq_true rfl) rfl dX8_digest_62 ?_
  obtain ⟨r5, h6, hm⟩ := o1_some hm
  refine q_callS (pc := 65) (As := [.long r3, .int r4]) (rest := []) C (c_Te_mixed hi h6) tw_787 tw_788 tw_2 tw_789 (nA := 2) (by decide +kernel) rfl (by decide) (Nat.le_of_ble_eq_true rfl) rfl dX8_digest_65 ?_
  refine q_lstore_n (pc := 68) (lv' := [(1, .long r5), (4, .int (1 : Int32)), (3, .int (0 : Int32)), (0, .ref (gad G 0))]) C dX8_digest_68 rfl (by decide) rfl ?_
  refine q_iinc (pc := 69) (k := 1) (v := (2 : Int32)) (lv' := [(4, .int (2 : Int32)), (1, .long r5), (3, .int (0 : Int32)), (0, .ref (gad G 0))]) C dX8_digest_69 rfl (by decide) (by decide) rfl ?_
  refine q_goto (pc := 72) (tgt := 50) C dX8_digest_72 (by decide) ?_
  refine q_iload (pc := 50) C dX8_digest_50 0 rfl ?_
  refine q_bipush (pc := 52) (v := (7 : Int32)) C dX8_digest_52 (by decide) ?_
  refine q_icmp_gt (pc := 54) (tgt := 75) C dX8_digest_54 (by decide) (fun c => absurd c (by decide)) (fun _ => ?_)
  refine q_lload_n (pc := 57) C dX8_digest_57 rfl 1 rfl ?_
  refine q_aload_n (pc := 58) C dX8_digest_58 rfl 3 rfl ?_
  refine q_iload_n (pc := 59) C dX8_digest_59 rfl 2 rfl ?_
  refine q_iload (pc := 60) C dX8_digest_60 0 rfl ?_
  obtain ⟨r6, S3, h7, hm⟩ := ob_some hm
  refine q_callV (pc := 62) (k := 0) (As := [.int (0 : Int32), .int (2 : Int32)]) (rest := [.long r5]) (T := TX8) C (c_Te_told hi h7) (by decide) (ce_0 _ _ _) (ci := 6) rfl tw_797 tw_710 tw_711 tw_2 tw_712 (nA := 2) (by decide +kernel) rfl (by decide) (Nat.le_of_ble_eq_true rfl) rfl dX8_digest_62 ?_
  obtain ⟨r7, h8, hm⟩ := o1_some hm
  refine q_callS (pc := 65) (As := [.long r5, .int r6]) (rest := []) C (c_Te_mixed hi h8) tw_787 tw_788 tw_2 tw_789 (nA := 2) (by decide +kernel) rfl (by decide) (Nat.le_of_ble_eq_true rfl) rfl dX8_digest_65 ?_
  refine q_lstore_n (pc := 68) (lv' := [(1, .long r7), (4, .int (2 : Int32)), (3, .int (0 : Int32)), (0, .ref (gad G 0))]) C dX8_digest_68 rfl (by decide) rfl ?_
  refine q_iinc (pc := 69) (k := 1) (v := (3 : Int32)) (lv' := [(4, .int (3 : Int32)), (1, .long r7), (3, .int (0 : Int32)), (0, .ref (gad G 0))]) C dX8_digest_69 rfl (by decide) (by decide) rfl ?_
  refine q_goto (pc := 72) (tgt := 50) C dX8_digest_72 (by decide) ?_
  refine q_iload (pc := 50) C dX8_digest_50 0 rfl ?_
  refine q_bipush (pc := 52) (v := (7 : Int32)) C dX8_digest_52 (by decide) ?_
  refine q_icmp_gt (pc := 54) (tgt := 75) C dX8_digest_54 (by decide) (fun c => absurd c (by decide)) (fun _ => ?_)
  refine q_lload_n (pc := 57) C dX8_digest_57 rfl 1 rfl ?_
  refine q_aload_n (pc := 58) C dX8_digest_58 rfl 3 rfl ?_
  refine q_iload_n (pc := 59) C dX8_digest_59 rfl 2 rfl ?_
  refine q_iload (pc := 60) C dX8_digest_60 0 rfl ?_
  obtain ⟨r8, S4, h9, hm⟩ := ob_some hm
  refine q_callV (pc := 62) (k := 0) (As := [.int (0 : Int32), .int (3 : Int32)]) (rest := [.long r7]) (T := TX8) C (c_Te_told hi h9) (by decide) (ce_0 _ _ _) (ci := 6) rfl tw_797 tw_710 tw_711 tw_2 tw_712 (nA := 2) (by decide +kernel) rfl (by decide) (Nat.le_of_ble_eq_true rfl) rfl dX8_digest_62 ?_
  obtain ⟨r9, h10, hm⟩ := o1_some hm
  refine q_callS (pc := 65) (As := [.long r7, .int r8]) (rest := []) C (c_Te_mixed hi h10) tw_787 tw_788 tw_2 tw_789 (nA := 2) (by decide +kernel) rfl (by decide) (Nat.le_of_ble_eq_true rfl) rfl dX8_digest_65 ?_
  refine q_lstore_n (pc := 68) (lv' := [(1, .long r9), (4, .int (3 : Int32)), (3, .int (0 : Int32)), (0, .ref (gad G 0))]) C dX8_digest_68 rfl (by decide) rfl ?_
  refine q_iinc (pc := 69) (k := 1) (v := (4 : Int32)) (lv' := [(4, .int (4 : Int32)), (1, .long r9), (3, .int (0 : Int32)), (0, .ref (gad G 0))]) C dX8_digest_69 rfl (by decide) (by decide) rfl ?_
  refine q_goto (pc := 72) (tgt := 50) C dX8_digest_72 (by decide) ?_
  refine q_iload (pc := 50) C dX8_digest_50 0 rfl ?_
  refine q_bipush (pc := 52) (v := (7 : Int32)) C dX8_digest_52 (by decide) ?_
  refine q_icmp_gt (pc := 54) (tgt := 75) C dX8_digest_54 (by decide) (fun c => absurd c (by decide)) (fun _ => ?_)
  refine q_lload_n (pc := 57) C dX8_digest_57 rfl 1 rfl ?_
  refine q_aload_n (pc := 58) C dX8_digest_58 rfl 3 rfl ?_
  refine q_iload_n (pc := 59) C dX8_digest_59 rfl 2 rfl ?_
  refine q_iload (pc := 60) C dX8_digest_60 0 rfl ?_
  obtain ⟨r10, S5, h11, hm⟩ := ob_some hm
  refine q_callV (pc := 62) (k := 0) (As := [.int (0 : Int32), .int (4 : Int32)]) (rest := [.long r9]) (T := TX8) C (c_Te_told hi h11) (by decide) (ce_0 _ _ _) (ci := 6) rfl tw_797 tw_710 tw_711 tw_2 tw_712 (nA := 2) (by decide +kernel) rfl (by decide) (Nat.le_of_ble_eq_true rfl) rfl dX8_digest_62 ?_
  obtain ⟨r11, h12, hm⟩ := o1_some hm
  refine q_callS (pc := 65) (As := [.long r9, .int r10]) (rest := []) C (c_Te_mixed hi h12) tw_787 tw_788 tw_2 tw_789 (nA := 2) (by decide +kernel) rfl (by decide) (Nat.le_of_ble_eq_true rfl) rfl dX8_digest_65 ?_
  refine q_lstore_n (pc := 68) (lv' := [(1, .long r11), (4, .int (4 : Int32)), (3, .int (0 : Int32)), (0, .ref (gad G 0))]) C dX8_digest_68 rfl (by decide) rfl ?_
  refine q_iinc (pc := 69) (k := 1) (v := (5 : Int32)) (lv' := [(4, .int (5 : Int32)), (1, .long r11), (3, .int (0 : Int32)), (0, .ref (gad G 0))]) C dX8_digest_69 rfl (by decide) (by decide) rfl ?_
  refine q_goto (pc := 72) (tgt := 50) C dX8_digest_72 (by decide) ?_
  refine q_iload (pc := 50) C dX8_digest_50 0 rfl ?_
  refine q_bipush (pc := 52) (v := (7 : Int32)) C dX8_digest_52 (by decide) ?_
  refine q_icmp_gt (pc := 54) (tgt := 75) C dX8_digest_54 (by decide) (fun c => absurd c (by decide)) (fun _ => ?_)
  refine q_lload_n (pc := 57) C dX8_digest_57 rfl 1 rfl ?_
  refine q_aload_n (pc := 58) C dX8_digest_58 rfl 3 rfl ?_
  refine q_iload_n (pc := 59) C dX8_digest_59 rfl 2 rfl ?_
  refine q_iload (pc := 60) C dX8_digest_60 0 rfl ?_
  obtain ⟨r12, S6, h13, hm⟩ := ob_some hm
  refine q_callV (pc := 62) (k := 0) (As := [.int (0 : Int32), .int (5 : Int32)]) (rest := [.long r11]) (T := TX8) C (c_Te_told hi h13) (by decide) (ce_0 _ _ _) (ci := 6) rfl tw_797 tw_710 tw_711 tw_2 tw_712 (nA := 2) (by decide +kernel) rfl (by decide) (Nat.le_of_ble_eq_true rfl) rfl dX8_digest_62 ?_
  obtain ⟨r13, h14, hm⟩ := o1_some hm
  refine q_callS (pc := 65) (As := [.long r11, .int r12]) (rest := []) C (c_Te_mixed hi h14) tw_787 tw_788 tw_2 tw_789 (nA := 2) (by decide +kernel) rfl (by decide) (Nat.le_of_ble_eq_true rfl) rfl dX8_digest_65 ?_
  refine q_lstore_n (pc := 68) (lv' := [(1, .long r13), (4, .int (5 : Int32)), (3, .int (0 : Int32)), (0, .ref (gad G 0))]) C dX8_digest_68 rfl (by decide) rfl ?_
  refine q_iinc (pc := 69) (k := 1) (v := (6 : Int32)) (lv' := [(4, .int (6 : Int32)), (1, .long r13), (3, .int (0 : Int32)), (0, .ref (gad G 0))]) C dX8_digest_69 rfl (by decide) (by decide) rfl ?_
  refine q_goto (pc := 72) (tgt := 50) C dX8_digest_72 (by decide) ?_
  refine q_iload (pc := 50) C dX8_digest_50 0 rfl ?_
  refine q_bipush (pc := 52) (v := (7 : Int32)) C dX8_digest_52 (by decide) ?_
  refine q_icmp_gt (pc := 54) (tgt := 75) C dX8_digest_54 (by decide) (fun c => absurd c (by decide)) (fun _ => ?_)
  refine q_lload_n (pc := 57) C dX8_digest_57 rfl 1 rfl ?_
  refine q_aload_n (pc := 58) C dX8_digest_58 rfl 3 rfl ?_
  refine q_iload_n (pc := 59) C dX8_digest_59 rfl 2 rfl ?_
  refine q_iload (pc := 60) C dX8_digest_60 0 rfl ?_
  obtain ⟨r14, S7, h15, hm⟩ := ob_some hm
  refine q_callV (pc := 62) (k := 0) (As := [.int (0 : Int32), .int (6 : Int32)]) (rest := [.long r13]) (T := TX8) C (c_Te_told hi h15) (by decide) (ce_0 _ _ _) (ci := 6) rfl tw_797 tw_710 tw_711 tw_2 tw_712 (nA := 2) (by decide +kernel) rfl (by decide) (Nat.le_of_ble_eq_true rfl) rfl dX8_digest_62 ?_
  obtain ⟨r15, h16, hm⟩ := o1_some hm
  refine q_callS (pc := 65) (As := [.long r13, .int r14]) (rest := []) C (c_Te_mixed hi h16) tw_787 tw_788 tw_2 tw_789 (nA := 2) (by decide +kernel) rfl (by decide) (Nat.le_of_ble_eq_true rfl) rfl dX8_digest_65 ?_
  refine q_lstore_n (pc := 68) (lv' := [(1, .long r15), (4, .int (6 : Int32)), (3, .int (0 : Int32)), (0, .ref (gad G 0))]) C dX8_digest_68 rfl (by decide) rfl ?_
  refine q_iinc (pc := 69) (k := 1) (v := (7 : Int32)) (lv' := [(4, .int (7 : Int32)), (1, .long r15), (3, .int (0 : Int32)), (0, .ref (gad G 0))]) C dX8_digest_69 rfl (by decide) (by decide) rfl ?_
  refine q_goto (pc := 72) (tgt := 50) C dX8_digest_72 (by decide) ?_
  refine q_iload (pc := 50) C dX8_digest_50 0 rfl ?_
  refine q_bipush (pc := 52) (v := (7 : Int32)) C dX8_digest_52 (by decide) ?_
  refine q_icmp_gt (pc := 54) (tgt := 75) C dX8_digest_54 (by decide) (fun c => absurd c (by decide)) (fun _ => ?_)
  refine q_lload_n (pc := 57) C dX8_digest_57 rfl 1 rfl ?_
  refine q_aload_n (pc := 58) C dX8_digest_58 rfl 3 rfl ?_
  refine q_iload_n (pc := 59) C dX8_digest_59 rfl 2 rfl ?_
  refine q_iload (pc := 60) C dX8_digest_60 0 rfl ?_
  obtain ⟨r16, S8, h17, hm⟩ := ob_some hm
  refine q_callV (pc := 62) (k := 0) (As := [.int (0 : Int32), .int (7 : Int32)]) (rest := [.long r15]) (T := TX8) C (c_Te_told hi h17) (by decide) (ce_0 _ _ _) (ci := 6) rfl tw_797 tw_710 tw_711 tw_2 tw_712 (nA := 2) (by decide +kernel) rfl (by decide) (Nat.le_of_ble_eq_true rfl) rfl dX8_digest_62 ?_
  obtain ⟨r17, h18, hm⟩ := o1_some hm
  refine q_callS (pc := 65) (As := [.long r15, .int r16]) (rest := []) C (c_Te_mixed hi h18) tw_787 tw_788 tw_2 tw_789 (nA := 2) (by decide +kernel) rfl (by decide) (Nat.le_of_ble_eq_true rfl) rfl dX8_digest_65 ?_
  refine q_lstore_n (pc := 68) (lv' := [(1, .long r17), (4, .int (7 : Int32)), (3, .int (0 : Int32)), (0, .ref (gad G 0))]) C dX8_digest_68 rfl (by decide) rfl ?_
  refine q_iinc (pc := 69) (k := 1) (v := (8 : Int32)) (lv' := [(4, .int (8 : Int32)), (1, .long r17), (3, .int (0 : Int32)), (0, .ref (gad G 0))]) C dX8_digest_69 rfl (by decide) (by decide) rfl ?_
  refine q_goto (pc := 72) (tgt := 50) C dX8_digest_72 (by decide) ?_
  refine q_iload (pc := 50) C dX8_digest_50 0 rfl ?_
  refine q_bipush (pc := 52) (v := (7 : Int32)) C dX8_digest_52 (by decide) ?_
  refine q_icmp_gt (pc := 54) (tgt := 75) C dX8_digest_54 (by decide) (fun _ => ?_) (fun c => absurd c (by decide))
  refine q_lload_n (pc := 75) C dX8_digest_75 rfl 1 rfl ?_
  refine q_aload_n (pc := 76) C dX8_digest_76 rfl 3 rfl ?_
  refine q_iload_n (pc := 77) C dX8_digest_77 rfl 2 rfl ?_
  obtain ⟨r18, S9, h19, hm⟩ := ob_some hm
  refine q_callV (pc := 78) (k := 0) (As := [.int (0 : Int32)]) (rest := [.long r17]) (T := TX8) C (c_Te_wouldGo hi h19) (by decide) (ce_0 _ _ _) (ci := 6) rfl tw_798 tw_799 tw_800 tw_2 tw_801 (nA := 1) (by decide +kernel) rfl (by decide) (Nat.le_of_ble_eq_true rfl) rfl dX8_digest_78 ?_
  obtain ⟨r19, h20, hm⟩ := o1_some hm
  refine q_callS (pc := 81) (As := [.long r17, .int r18]) (rest := []) C (c_Te_mixed hi h20) tw_787 tw_788 tw_2 tw_789 (nA := 2) (by decide +kernel) rfl (by decide) (Nat.le_of_ble_eq_true rfl) rfl dX8_digest_81 ?_
  refine q_lstore_n (pc := 84) (lv' := [(1, .long r19), (4, .int (8 : Int32)), (3, .int (0 : Int32)), (0, .ref (gad G 0))]) C dX8_digest_84 rfl (by decide) rfl ?_
  refine q_lload_n (pc := 85) C dX8_digest_85 rfl 0 rfl ?_
  refine q_aload_n (pc := 86) C dX8_digest_86 rfl 3 rfl ?_
  refine q_iload_n (pc := 87) C dX8_digest_87 rfl 2 rfl ?_
  obtain ⟨r20, S10, h21, hm⟩ := ob_some hm
  refine q_callV (pc := 88) (k := 0) (As := [.int (0 : Int32)]) (rest := [.long r19]) (T := TX8) C (c_Te_wouldWork hi h21) (by decide) (ce_0 _ _ _) (ci := 6) rfl tw_831 tw_832 tw_833 tw_2 tw_834 (nA := 1) (by decide +kernel) rfl (by decide) (Nat.le_of_ble_eq_true rfl) rfl dX8_digest_88 ?_
  obtain ⟨r21, h22, hm⟩ := o1_some hm
  refine q_callS (pc := 91) (As := [.long r19, .int r20]) (rest := []) C (c_Te_mixed hi h22) tw_787 tw_788 tw_2 tw_789 (nA := 2) (by decide +kernel) rfl (by decide) (Nat.le_of_ble_eq_true rfl) rfl dX8_digest_91 ?_
  refine q_lstore_n (pc := 94) (lv' := [(1, .long r21), (4, .int (8 : Int32)), (3, .int (0 : Int32)), (0, .ref (gad G 0))]) C dX8_digest_94 rfl (by decide) rfl ?_
  refine q_iinc (pc := 95) (k := 2) (v := (1 : Int32)) (lv' := [(3, .int (1 : Int32)), (1, .long r21), (4, .int (8 : Int32)), (0, .ref (gad G 0))]) C dX8_digest_95 rfl (by decide) (by decide) rfl ?_
  refine q_goto (pc := 98) (tgt := 42) C dX8_digest_98 (by decide) ?_
  refine q_iload_n (pc := 42) C dX8_digest_42 rfl 0 rfl ?_
  refine q_iconst (pc := 43) (v := (4 : Int32)) C dX8_digest_43 (by decide) ?_
  refine q_icmp_ge (pc := 44) (tgt := 101) C dX8_digest_44 (by decide) (fun c => absurd c (by decide)) (fun _ => ?_)
  refine q_iconst (pc := 47) (v := (0 : Int32)) C dX8_digest_47 (by decide) ?_
  refine q_istore (pc := 48) (lv' := [(4, .int (0 : Int32)), (3, .int (1 : Int32)), (1, .long r21), (0, .ref (gad G 0))]) C dX8_digest_48 (by decide) rfl ?_
  refine q_iload (pc := 50) C dX8_digest_50 0 rfl ?_
  refine q_bipush (pc := 52) (v := (7 : Int32)) C dX8_digest_52 (by decide) ?_
  refine q_icmp_gt (pc := 54) (tgt := 75) C dX8_digest_54 (by decide) (fun c => absurd c (by decide)) (fun _ => ?_)
  refine q_lload_n (pc := 57) C dX8_digest_57 rfl 2 rfl ?_
  refine q_aload_n (pc := 58) C dX8_digest_58 rfl 3 rfl ?_
  refine q_iload_n (pc := 59) C dX8_digest_59 rfl 1 rfl ?_
  refine q_iload (pc := 60) C dX8_digest_60 0 rfl ?_
  obtain ⟨r22, S11, h23, hm⟩ := ob_some hm
  refine q_callV (pc := 62) (k := 0) (As := [.int (1 : Int32), .int (0 : Int32)]) (rest := [.long r21]) (T := TX8) C (c_Te_told hi h23) (by decide) (ce_0 _ _ _) (ci := 6) rfl tw_797 tw_710 tw_711 tw_2 tw_712 (nA := 2) (by decide +kernel) rfl (by decide) (Nat.le_of_ble_eq_true rfl) rfl dX8_digest_62 ?_
  obtain ⟨r23, h24, hm⟩ := o1_some hm
  refine q_callS (pc := 65) (As := [.long r21, .int r22]) (rest := []) C (c_Te_mixed hi h24) tw_787 tw_788 tw_2 tw_789 (nA := 2) (by decide +kernel) rfl (by decide) (Nat.le_of_ble_eq_true rfl) rfl dX8_digest_65 ?_
  refine q_lstore_n (pc := 68) (lv' := [(1, .long r23), (4, .int (0 : Int32)), (3, .int (1 : Int32)), (0, .ref (gad G 0))]) C dX8_digest_68 rfl (by decide) rfl ?_
  refine q_iinc (pc := 69) (k := 1) (v := (1 : Int32)) (lv' := [(4, .int (1 : Int32)), (1, .long r23), (3, .int (1 : Int32)), (0, .ref (gad G 0))]) C dX8_digest_69 rfl (by decide) (by decide) rfl ?_
  refine q_goto (pc := 72) (tgt := 50) C dX8_digest_72 (by decide) ?_
  refine q_iload (pc := 50) C dX8_digest_50 0 rfl ?_
  refine q_bipush (pc := 52) (v := (7 : Int32)) C dX8_digest_52 (by decide) ?_
  refine q_icmp_gt (pc := 54) (tgt := 75) C dX8_digest_54 (by decide) (fun c => absurd c (by decide)) (fun _ => ?_)
  refine q_lload_n (pc := 57) C dX8_digest_57 rfl 1 rfl ?_
  refine q_aload_n (pc := 58) C dX8_digest_58 rfl 3 rfl ?_
  refine q_iload_n (pc := 59) C dX8_digest_59 rfl 2 rfl ?_
  refine q_iload (pc := 60) C dX8_digest_60 0 rfl ?_
  obtain ⟨r24, S12, h25, hm⟩ := ob_some hm
  refine q_callV (pc := 62) (k := 0) (As := [.int (1 : Int32), .int (1 : Int32)]) (rest := [.long r23]) (T := TX8) C (c_Te_told hi h25) (by decide) (ce_0 _ _ _) (ci := 6) rfl tw_797 tw_710 tw_711 tw_2 tw_712 (nA := 2) (by decide +kernel) rfl (by decide) (Nat.le_of_ble_eq_true rfl) rfl dX8_digest_62 ?_
  obtain ⟨r25, h26, hm⟩ := o1_some hm
  refine q_callS (pc := 65) (As := [.long r23, .int r24]) (rest := []) C (c_Te_mixed hi h26) tw_787 tw_788 tw_2 tw_789 (nA := 2) (by decide +kernel) rfl (by decide) (Nat.le_of_ble_eq_true rfl) rfl dX8_digest_65 ?_
  refine q_lstore_n (pc := 68) (lv' := [(1, .long r25), (4, .int (1 : Int32)), (3, .int (1 : Int32)), (0, .ref (gad G 0))]) C dX8_digest_68 rfl (by decide) rfl ?_
  refine q_iinc (pc := 69) (k := 1) (v := (2 : Int32)) (lv' := [(4, .int (2 : Int32)), (1, .long r25), (3, .int (1 : Int32)), (0, .ref (gad G 0))]) C dX8_digest_69 rfl (by decide) (by decide) rfl ?_
  refine q_goto (pc := 72) (tgt := 50) C dX8_digest_72 (by decide) ?_
  refine q_iload (pc := 50) C dX8_digest_50 0 rfl ?_
  refine q_bipush (pc := 52) (v := (7 : Int32)) C dX8_digest_52 (by decide) ?_
  refine q_icmp_gt (pc := 54) (tgt := 75) C dX8_digest_54 (by decide) (fun c => absurd c (by decide)) (fun _ => ?_)
  refine q_lload_n (pc := 57) C dX8_digest_57 rfl 1 rfl ?_
  refine q_aload_n (pc := 58) C dX8_digest_58 rfl 3 rfl ?_
  refine q_iload_n (pc := 59) C dX8_digest_59 rfl 2 rfl ?_
  refine q_iload (pc := 60) C dX8_digest_60 0 rfl ?_
  obtain ⟨r26, S13, h27, hm⟩ := ob_some hm
  refine q_callV (pc := 62) (k := 0) (As := [.int (1 : Int32), .int (2 : Int32)]) (rest := [.long r25]) (T := TX8) C (c_Te_told hi h27) (by decide) (ce_0 _ _ _) (ci := 6) rfl tw_797 tw_710 tw_711 tw_2 tw_712 (nA := 2) (by decide +kernel) rfl (by decide) (Nat.le_of_ble_eq_true rfl) rfl dX8_digest_62 ?_
  obtain ⟨r27, h28, hm⟩ := o1_some hm
  refine q_callS (pc := 65) (As := [.long r25, .int r26]) (rest := []) C (c_Te_mixed hi h28) tw_787 tw_788 tw_2 tw_789 (nA := 2) (by decide +kernel) rfl (by decide) (Nat.le_of_ble_eq_true rfl) rfl dX8_digest_65 ?_
  refine q_lstore_n (pc := 68) (lv' := [(1, .long r27), (4, .int (2 : Int32)), (3, .int (1 : Int32)), (0, .ref (gad G 0))]) C dX8_digest_68 rfl (by decide) rfl ?_
  refine q_iinc (pc := 69) (k := 1) (v := (3 : Int32)) (lv' := [(4, .int (3 : Int32)), (1, .long r27), (3, .int (1 : Int32)), (0, .ref (gad G 0))]) C dX8_digest_69 rfl (by decide) (by decide) rfl ?_
  refine q_goto (pc := 72) (tgt := 50) C dX8_digest_72 (by decide) ?_
  refine q_iload (pc := 50) C dX8_digest_50 0 rfl ?_
  refine q_bipush (pc := 52) (v := (7 : Int32)) C dX8_digest_52 (by decide) ?_
  refine q_icmp_gt (pc := 54) (tgt := 75) C dX8_digest_54 (by decide) (fun c => absurd c (by decide)) (fun _ => ?_)
  refine q_lload_n (pc := 57) C dX8_digest_57 rfl 1 rfl ?_
  refine q_aload_n (pc := 58) C dX8_digest_58 rfl 3 rfl ?_
  refine q_iload_n (pc := 59) C dX8_digest_59 rfl 2 rfl ?_
  refine q_iload (pc := 60) C dX8_digest_60 0 rfl ?_
  obtain ⟨r28, S14, h29, hm⟩ := ob_some hm
  refine q_callV (pc := 62) (k := 0) (As := [.int (1 : Int32), .int (3 : Int32)]) (rest := [.long r27]) (T := TX8) C (c_Te_told hi h29) (by decide) (ce_0 _ _ _) (ci := 6) rfl tw_797 tw_710 tw_711 tw_2 tw_712 (nA := 2) (by decide +kernel) rfl (by decide) (Nat.le_of_ble_eq_true rfl) rfl dX8_digest_62 ?_
  obtain ⟨r29, h30, hm⟩ := o1_some hm
  refine q_callS (pc := 65) (As := [.long r27, .int r28]) (rest := []) C (c_Te_mixed hi h30) tw_787 tw_788 tw_2 tw_789 (nA := 2) (by decide +kernel) rfl (by decide) (Nat.le_of_ble_eq_true rfl) rfl dX8_digest_65 ?_
  refine q_lstore_n (pc := 68) (lv' := [(1, .long r29), (4, .int (3 : Int32)), (3, .int (1 : Int32)), (0, .ref (gad G 0))]) C dX8_digest_68 rfl (by decide) rfl ?_
  refine q_iinc (pc := 69) (k := 1) (v := (4 : Int32)) (lv' := [(4, .int (4 : Int32)), (1, .long r29), (3, .int (1 : Int32)), (0, .ref (gad G 0))]) C dX8_digest_69 rfl (by decide) (by decide) rfl ?_
  refine q_goto (pc := 72) (tgt := 50) C dX8_digest_72 (by decide) ?_
  refine q_iload (pc := 50) C dX8_digest_50 0 rfl ?_
  refine q_bipush (pc := 52) (v := (7 : Int32)) C dX8_digest_52 (by decide) ?_
  refine q_icmp_gt (pc := 54) (tgt := 75) C dX8_digest_54 (by decide) (fun c => absurd c (by decide)) (fun _ => ?_)
  refine q_lload_n (pc := 57) C dX8_digest_57 rfl 1 rfl ?_
  refine q_aload_n (pc := 58) C dX8_digest_58 rfl 3 rfl ?_
  refine q_iload_n (pc := 59) C dX8_digest_59 rfl 2 rfl ?_
  refine q_iload (pc := 60) C dX8_digest_60 0 rfl ?_
  obtain ⟨r30, S15, h31, hm⟩ := ob_some hm
  refine q_callV (pc := 62) (k := 0) (As := [.int (1 : Int32), .int (4 : Int32)]) (rest := [.long r29]) (T := TX8) C (c_Te_told hi h31) (by decide) (ce_0 _ _ _) (ci := 6) rfl tw_797 tw_710 tw_711 tw_2 tw_712 (nA := 2) (by decide +kernel) rfl (by decide) (Nat.le_of_ble_eq_true rfl) rfl dX8_digest_62 ?_
  obtain ⟨r31, h32, hm⟩ := o1_some hm
  refine q_callS (pc := 65) (As := [.long r29, .int r30]) (rest := []) C (c_Te_mixed hi h32) tw_787 tw_788 tw_2 tw_789 (nA := 2) (by decide +kernel) rfl (by decide) (Nat.le_of_ble_eq_true rfl) rfl dX8_digest_65 ?_
  refine q_lstore_n (pc := 68) (lv' := [(1, .long r31), (4, .int (4 : Int32)), (3, .int (1 : Int32)), (0, .ref (gad G 0))]) C dX8_digest_68 rfl (by decide) rfl ?_
  refine q_iinc (pc := 69) (k := 1) (v := (5 : Int32)) (lv' := [(4, .int (5 : Int32)), (1, .long r31), (3, .int (1 : Int32)), (0, .ref (gad G 0))]) C dX8_digest_69 rfl (by decide) (by decide) rfl ?_
  refine q_goto (pc := 72) (tgt := 50) C dX8_digest_72 (by decide) ?_
  refine q_iload (pc := 50) C dX8_digest_50 0 rfl ?_
  refine q_bipush (pc := 52) (v := (7 : Int32)) C dX8_digest_52 (by decide) ?_
  refine q_icmp_gt (pc := 54) (tgt := 75) C dX8_digest_54 (by decide) (fun c => absurd c (by decide)) (fun _ => ?_)
  refine q_lload_n (pc := 57) C dX8_digest_57 rfl 1 rfl ?_
  refine q_aload_n (pc := 58) C dX8_digest_58 rfl 3 rfl ?_
  refine q_iload_n (pc := 59) C dX8_digest_59 rfl 2 rfl ?_
  refine q_iload (pc := 60) C dX8_digest_60 0 rfl ?_
  obtain ⟨r32, S16, h33, hm⟩ := ob_some hm
  refine q_callV (pc := 62) (k := 0) (As := [.int (1 : Int32), .int (5 : Int32)]) (rest := [.long r31]) (T := TX8) C (c_Te_told hi h33) (by decide) (ce_0 _ _ _) (ci := 6) rfl tw_797 tw_710 tw_711 tw_2 tw_712 (nA := 2) (by decide +kernel) rfl (by decide) (Nat.le_of_ble_eq_true rfl) rfl dX8_digest_62 ?_
  obtain ⟨r33, h34, hm⟩ := o1_some hm
  refine q_callS (pc := 65) (As := [.long r31, .int r32]) (rest := []) C (c_Te_mixed hi h34) tw_787 tw_788 tw_2 tw_789 (nA := 2) (by decide +kernel) rfl (by decide) (Nat.le_of_ble_eq_true rfl) rfl dX8_digest_65 ?_
  refine q_lstore_n (pc := 68) (lv' := [(1, .long r33), (4, .int (5 : Int32)), (3, .int (1 : Int32)), (0, .ref (gad G 0))]) C dX8_digest_68 rfl (by decide) rfl ?_
  refine q_iinc (pc := 69) (k := 1) (v := (6 : Int32)) (lv' := [(4, .int (6 : Int32)), (1, .long r33), (3, .int (1 : Int32)), (0, .ref (gad G 0))]) C dX8_digest_69 rfl (by decide) (by decide) rfl ?_
  refine q_goto (pc := 72) (tgt := 50) C dX8_digest_72 (by decide) ?_
  refine q_iload (pc := 50) C dX8_digest_50 0 rfl ?_
  refine q_bipush (pc := 52) (v := (7 : Int32)) C dX8_digest_52 (by decide) ?_
  refine q_icmp_gt (pc := 54) (tgt := 75) C dX8_digest_54 (by decide) (fun c => absurd c (by decide)) (fun _ => ?_)
  refine q_lload_n (pc := 57) C dX8_digest_57 rfl 1 rfl ?_
  refine q_aload_n (pc := 58) C dX8_digest_58 rfl 3 rfl ?_
  refine q_iload_n (pc := 59) C dX8_digest_59 rfl 2 rfl ?_
  refine q_iload (pc := 60) C dX8_digest_60 0 rfl ?_
  obtain ⟨r34, S17, h35, hm⟩ := ob_some hm
  refine q_callV (pc := 62) (k := 0) (As := [.int (1 : Int32), .int (6 : Int32)]) (rest := [.long r33]) (T := TX8) C (c_Te_told hi h35) (by decide) (ce_0 _ _ _) (ci := 6) rfl tw_797 tw_710 tw_711 tw_2 tw_712 (nA := 2) (by decide +kernel) rfl (by decide) (Nat.le_of_ble_eq_true rfl) rfl dX8_digest_62 ?_
  obtain ⟨r35, h36, hm⟩ := o1_some hm
  refine q_callS (pc := 65) (As := [.long r33, .int r34]) (rest := []) C (c_Te_mixed hi h36) tw_787 tw_788 tw_2 tw_789 (nA := 2) (by decide +kernel) rfl (by decide) (Nat.le_of_ble_eq_true rfl) rfl dX8_digest_65 ?_
  refine q_lstore_n (pc := 68) (lv' := [(1, .long r35), (4, .int (6 : Int32)), (3, .int (1 : Int32)), (0, .ref (gad G 0))]) C dX8_digest_68 rfl (by decide) rfl ?_
  refine q_iinc (pc := 69) (k := 1) (v := (7 : Int32)) (lv' := [(4, .int (7 : Int32)), (1, .long r35), (3, .int (1 : Int32)), (0, .ref (gad G 0))]) C dX8_digest_69 rfl (by decide) (by decide) rfl ?_
  refine q_goto (pc := 72) (tgt := 50) C dX8_digest_72 (by decide) ?_
  refine q_iload (pc := 50) C dX8_digest_50 0 rfl ?_
  refine q_bipush (pc := 52) (v := (7 : Int32)) C dX8_digest_52 (by decide) ?_
  refine q_icmp_gt (pc := 54) (tgt := 75) C dX8_digest_54 (by decide) (fun c => absurd c (by decide)) (fun _ => ?_)
  refine q_lload_n (pc := 57) C dX8_digest_57 rfl 1 rfl ?_
  refine q_aload_n (pc := 58) C dX8_digest_58 rfl 3 rfl ?_
  refine q_iload_n (pc := 59) C dX8_digest_59 rfl 2 rfl ?_
  refine q_iload (pc := 60) C dX8_digest_60 0 rfl ?_
  obtain ⟨r36, S18, h37, hm⟩ := ob_some hm
  refine q_callV (pc := 62) (k := 0) (As := [.int (1 : Int32), .int (7 : Int32)]) (rest := [.long r35]) (T := TX8) C (c_Te_told hi h37) (by decide) (ce_0 _ _ _) (ci := 6) rfl tw_797 tw_710 tw_711 tw_2 tw_712 (nA := 2) (by decide +kernel) rfl (by decide) (Nat.le_of_ble_eq_true rfl) rfl dX8_digest_62 ?_
  obtain ⟨r37, h38, hm⟩ := o1_some hm
  refine q_callS (pc := 65) (As := [.long r35, .int r36]) (rest := []) C (c_Te_mixed hi h38) tw_787 tw_788 tw_2 tw_789 (nA := 2) (by decide +kernel) rfl (by decide) (Nat.le_of_ble_eq_true rfl) rfl dX8_digest_65 ?_
  refine q_lstore_n (pc := 68) (lv' := [(1, .long r37), (4, .int (7 : Int32)), (3, .int (1 : Int32)), (0, .ref (gad G 0))]) C dX8_digest_68 rfl (by decide) rfl ?_
  refine q_iinc (pc := 69) (k := 1) (v := (8 : Int32)) (lv' := [(4, .int (8 : Int32)), (1, .long r37), (3, .int (1 : Int32)), (0, .ref (gad G 0))]) C dX8_digest_69 rfl (by decide) (by decide) rfl ?_
  refine q_goto (pc := 72) (tgt := 50) C dX8_digest_72 (by decide) ?_
  refine q_iload (pc := 50) C dX8_digest_50 0 rfl ?_
  refine q_bipush (pc := 52) (v := (7 : Int32)) C dX8_digest_52 (by decide) ?_
  refine q_icmp_gt (pc := 54) (tgt := 75) C dX8_digest_54 (by decide) (fun _ => ?_) (fun c => absurd c (by decide))
  refine q_lload_n (pc := 75) C dX8_digest_75 rfl 1 rfl ?_
  refine q_aload_n (pc := 76) C dX8_digest_76 rfl 3 rfl ?_
  refine q_iload_n (pc := 77) C dX8_digest_77 rfl 2 rfl ?_
  obtain ⟨r38, S19, h39, hm⟩ := ob_some hm
  refine q_callV (pc := 78) (k := 0) (As := [.int (1 : Int32)]) (rest := [.long r37]) (T := TX8) C (c_Te_wouldGo hi h39) (by decide) (ce_0 _ _ _) (ci := 6) rfl tw_798 tw_799 tw_800 tw_2 tw_801 (nA := 1) (by decide +kernel) rfl (by decide) (Nat.le_of_ble_eq_true rfl) rfl dX8_digest_78 ?_
  obtain ⟨r39, h40, hm⟩ := o1_some hm
  refine q_callS (pc := 81) (As := [.long r37, .int r38]) (rest := []) C (c_Te_mixed hi h40) tw_787 tw_788 tw_2 tw_789 (nA := 2) (by decide +kernel) rfl (by decide) (Nat.le_of_ble_eq_true rfl) rfl dX8_digest_81 ?_
  refine q_lstore_n (pc := 84) (lv' := [(1, .long r39), (4, .int (8 : Int32)), (3, .int (1 : Int32)), (0, .ref (gad G 0))]) C dX8_digest_84 rfl (by decide) rfl ?_
  refine q_lload_n (pc := 85) C dX8_digest_85 rfl 0 rfl ?_
  refine q_aload_n (pc := 86) C dX8_digest_86 rfl 3 rfl ?_
  refine q_iload_n (pc := 87) C dX8_digest_87 rfl 2 rfl ?_
  obtain ⟨r40, S20, h41, hm⟩ := ob_some hm
  refine q_callV (pc := 88) (k := 0) (As := [.int (1 : Int32)]) (rest := [.long r39]) (T := TX8) C (c_Te_wouldWork hi h41) (by decide) (ce_0 _ _ _) (ci := 6) rfl tw_831 tw_832 tw_833 tw_2 tw_834 (nA := 1) (by decide +kernel) rfl (by decide) (Nat.le_of_ble_eq_true rfl) rfl dX8_digest_88 ?_
  obtain ⟨r41, h42, hm⟩ := o1_some hm
  refine q_callS (pc := 91) (As := [.long r39, .int r40]) (rest := []) C (c_Te_mixed hi h42) tw_787 tw_788 tw_2 tw_789 (nA := 2) (by decide +kernel) rfl (by decide) (Nat.le_of_ble_eq_true rfl) rfl dX8_digest_91 ?_
  refine q_lstore_n (pc := 94) (lv' := [(1, .long r41), (4, .int (8 : Int32)), (3, .int (1 : Int32)), (0, .ref (gad G 0))]) C dX8_digest_94 rfl (by decide) rfl ?_
  refine q_iinc (pc := 95) (k := 2) (v := (2 : Int32)) (lv' := [(3, .int (2 : Int32)), (1, .long r41), (4, .int (8 : Int32)), (0, .ref (gad G 0))]) C dX8_digest_95 rfl (by decide) (by decide) rfl ?_
  refine q_goto (pc := 98) (tgt := 42) C dX8_digest_98 (by decide) ?_
  refine q_iload_n (pc := 42) C dX8_digest_42 rfl 0 rfl ?_
  refine q_iconst (pc := 43) (v := (4 : Int32)) C dX8_digest_43 (by decide) ?_
  refine q_icmp_ge (pc := 44) (tgt := 101) C dX8_digest_44 (by decide) (fun c => absurd c (by decide)) (fun _ => ?_)
  refine q_iconst (pc := 47) (v := (0 : Int32)) C dX8_digest_47 (by decide) ?_
  refine q_istore (pc := 48) (lv' := [(4, .int (0 : Int32)), (3, .int (2 : Int32)), (1, .long r41), (0, .ref (gad G 0))]) C dX8_digest_48 (by decide) rfl ?_
  refine q_iload (pc := 50) C dX8_digest_50 0 rfl ?_
  refine q_bipush (pc := 52) (v := (7 : Int32)) C dX8_digest_52 (by decide) ?_
  refine q_icmp_gt (pc := 54) (tgt := 75) C dX8_digest_54 (by decide) (fun c => absurd c (by decide)) (fun _ => ?_)
  refine q_lload_n (pc := 57) C dX8_digest_57 rfl 2 rfl ?_
  refine q_aload_n (pc := 58) C dX8_digest_58 rfl 3 rfl ?_
  refine q_iload_n (pc := 59) C dX8_digest_59 rfl 1 rfl ?_
  refine q_iload (pc := 60) C dX8_digest_60 0 rfl ?_
  obtain ⟨r42, S21, h43, hm⟩ := ob_some hm
  refine q_callV (pc := 62) (k := 0) (As := [.int (2 : Int32), .int (0 : Int32)]) (rest := [.long r41]) (T := TX8) C (c_Te_told hi h43) (by decide) (ce_0 _ _ _) (ci := 6) rfl tw_797 tw_710 tw_711 tw_2 tw_712 (nA := 2) (by decide +kernel) rfl (by decide) (Nat.le_of_ble_eq_true rfl) rfl dX8_digest_62 ?_
  obtain ⟨r43, h44, hm⟩ := o1_some hm
  refine q_callS (pc := 65) (As := [.long r41, .int r42]) (rest := []) C (c_Te_mixed hi h44) tw_787 tw_788 tw_2 tw_789 (nA := 2) (by decide +kernel) rfl (by decide) (Nat.le_of_ble_eq_true rfl) rfl dX8_digest_65 ?_
  refine q_lstore_n (pc := 68) (lv' := [(1, .long r43), (4, .int (0 : Int32)), (3, .int (2 : Int32)), (0, .ref (gad G 0))]) C dX8_digest_68 rfl (by decide) rfl ?_
  refine q_iinc (pc := 69) (k := 1) (v := (1 : Int32)) (lv' := [(4, .int (1 : Int32)), (1, .long r43), (3, .int (2 : Int32)), (0, .ref (gad G 0))]) C dX8_digest_69 rfl (by decide) (by decide) rfl ?_
  refine q_goto (pc := 72) (tgt := 50) C dX8_digest_72 (by decide) ?_
  refine q_iload (pc := 50) C dX8_digest_50 0 rfl ?_
  refine q_bipush (pc := 52) (v := (7 : Int32)) C dX8_digest_52 (by decide) ?_
  refine q_icmp_gt (pc := 54) (tgt := 75) C dX8_digest_54 (by decide) (fun c => absurd c (by decide)) (fun _ => ?_)
  refine q_lload_n (pc := 57) C dX8_digest_57 rfl 1 rfl ?_
  refine q_aload_n (pc := 58) C dX8_digest_58 rfl 3 rfl ?_
  refine q_iload_n (pc := 59) C dX8_digest_59 rfl 2 rfl ?_
  refine q_iload (pc := 60) C dX8_digest_60 0 rfl ?_
  obtain ⟨r44, S22, h45, hm⟩ := ob_some hm
  refine q_callV (pc := 62) (k := 0) (As := [.int (2 : Int32), .int (1 : Int32)]) (rest := [.long r43]) (T := TX8) C (c_Te_told hi h45) (by decide) (ce_0 _ _ _) (ci := 6) rfl tw_797 tw_710 tw_711 tw_2 tw_712 (nA := 2) (by decide +kernel) rfl (by decide) (Nat.le_of_ble_eq_true rfl) rfl dX8_digest_62 ?_
  obtain ⟨r45, h46, hm⟩ := o1_some hm
  refine q_callS (pc := 65) (As := [.long r43, .int r44]) (rest := []) C (c_Te_mixed hi h46) tw_787 tw_788 tw_2 tw_789 (nA := 2) (by decide +kernel) rfl (by decide) (Nat.le_of_ble_eq_true rfl) rfl dX8_digest_65 ?_
  refine q_lstore_n (pc := 68) (lv' := [(1, .long r45), (4, .int (1 : Int32)), (3, .int (2 : Int32)), (0, .ref (gad G 0))]) C dX8_digest_68 rfl (by decide) rfl ?_
  refine q_iinc (pc := 69) (k := 1) (v := (2 : Int32)) (lv' := [(4, .int (2 : Int32)), (1, .long r45), (3, .int (2 : Int32)), (0, .ref (gad G 0))]) C dX8_digest_69 rfl (by decide) (by decide) rfl ?_
  refine q_goto (pc := 72) (tgt := 50) C dX8_digest_72 (by decide) ?_
  refine q_iload (pc := 50) C dX8_digest_50 0 rfl ?_
  refine q_bipush (pc := 52) (v := (7 : Int32)) C dX8_digest_52 (by decide) ?_
  refine q_icmp_gt (pc := 54) (tgt := 75) C dX8_digest_54 (by decide) (fun c => absurd c (by decide)) (fun _ => ?_)
  refine q_lload_n (pc := 57) C dX8_digest_57 rfl 1 rfl ?_
  refine q_aload_n (pc := 58) C dX8_digest_58 rfl 3 rfl ?_
  refine q_iload_n (pc := 59) C dX8_digest_59 rfl 2 rfl ?_
  refine q_iload (pc := 60) C dX8_digest_60 0 rfl ?_
  obtain ⟨r46, S23, h47, hm⟩ := ob_some hm
  refine q_callV (pc := 62) (k := 0) (As := [.int (2 : Int32), .int (2 : Int32)]) (rest := [.long r45]) (T := TX8) C (c_Te_told hi h47) (by decide) (ce_0 _ _ _) (ci := 6) rfl tw_797 tw_710 tw_711 tw_2 tw_712 (nA := 2) (by decide +kernel) rfl (by decide) (Nat.le_of_ble_eq_true rfl) rfl dX8_digest_62 ?_
  obtain ⟨r47, h48, hm⟩ := o1_some hm
  refine q_callS (pc := 65) (As := [.long r45, .int r46]) (rest := []) C (c_Te_mixed hi h48) tw_787 tw_788 tw_2 tw_789 (nA := 2) (by decide +kernel) rfl (by decide) (Nat.le_of_ble_eq_true rfl) rfl dX8_digest_65 ?_
  refine q_lstore_n (pc := 68) (lv' := [(1, .long r47), (4, .int (2 : Int32)), (3, .int (2 : Int32)), (0, .ref (gad G 0))]) C dX8_digest_68 rfl (by decide) rfl ?_
  refine q_iinc (pc := 69) (k := 1) (v := (3 : Int32)) (lv' := [(4, .int (3 : Int32)), (1, .long r47), (3, .int (2 : Int32)), (0, .ref (gad G 0))]) C dX8_digest_69 rfl (by decide) (by decide) rfl ?_
  refine q_goto (pc := 72) (tgt := 50) C dX8_digest_72 (by decide) ?_
  refine q_iload (pc := 50) C dX8_digest_50 0 rfl ?_
  refine q_bipush (pc := 52) (v := (7 : Int32)) C dX8_digest_52 (by decide) ?_
  refine q_icmp_gt (pc := 54) (tgt := 75) C dX8_digest_54 (by decide) (fun c => absurd c (by decide)) (fun _ => ?_)
  refine q_lload_n (pc := 57) C dX8_digest_57 rfl 1 rfl ?_
  refine q_aload_n (pc := 58) C dX8_digest_58 rfl 3 rfl ?_
  refine q_iload_n (pc := 59) C dX8_digest_59 rfl 2 rfl ?_
  refine q_iload (pc := 60) C dX8_digest_60 0 rfl ?_
  obtain ⟨r48, S24, h49, hm⟩ := ob_some hm
  refine q_callV (pc := 62) (k := 0) (As := [.int (2 : Int32), .int (3 : Int32)]) (rest := [.long r47]) (T := TX8) C (c_Te_told hi h49) (by decide) (ce_0 _ _ _) (ci := 6) rfl tw_797 tw_710 tw_711 tw_2 tw_712 (nA := 2) (by decide +kernel) rfl (by decide) (Nat.le_of_ble_eq_true rfl) rfl dX8_digest_62 ?_
  obtain ⟨r49, h50, hm⟩ := o1_some hm
  refine q_callS (pc := 65) (As := [.long r47, .int r48]) (rest := []) C (c_Te_mixed hi h50) tw_787 tw_788 tw_2 tw_789 (nA := 2) (by decide +kernel) rfl (by decide) (Nat.le_of_ble_eq_true rfl) rfl dX8_digest_65 ?_
  refine q_lstore_n (pc := 68) (lv' := [(1, .long r49), (4, .int (3 : Int32)), (3, .int (2 : Int32)), (0, .ref (gad G 0))]) C dX8_digest_68 rfl (by decide) rfl ?_
  refine q_iinc (pc := 69) (k := 1) (v := (4 : Int32)) (lv' := [(4, .int (4 : Int32)), (1, .long r49), (3, .int (2 : Int32)), (0, .ref (gad G 0))]) C dX8_digest_69 rfl (by decide) (by decide) rfl ?_
  refine q_goto (pc := 72) (tgt := 50) C dX8_digest_72 (by decide) ?_
  refine q_iload (pc := 50) C dX8_digest_50 0 rfl ?_
  refine q_bipush (pc := 52) (v := (7 : Int32)) C dX8_digest_52 (by decide) ?_
  refine q_icmp_gt (pc := 54) (tgt := 75) C dX8_digest_54 (by decide) (fun c => absurd c (by decide)) (fun _ => ?_)
  refine q_lload_n (pc := 57) C dX8_digest_57 rfl 1 rfl ?_
  refine q_aload_n (pc := 58) C dX8_digest_58 rfl 3 rfl ?_
  refine q_iload_n (pc := 59) C dX8_digest_59 rfl 2 rfl ?_
  refine q_iload (pc := 60) C dX8_digest_60 0 rfl ?_
  obtain ⟨r50, S25, h51, hm⟩ := ob_some hm
  refine q_callV (pc := 62) (k := 0) (As := [.int (2 : Int32), .int (4 : Int32)]) (rest := [.long r49]) (T := TX8) C (c_Te_told hi h51) (by decide) (ce_0 _ _ _) (ci := 6) rfl tw_797 tw_710 tw_711 tw_2 tw_712 (nA := 2) (by decide +kernel) rfl (by decide) (Nat.le_of_ble_eq_true rfl) rfl dX8_digest_62 ?_
  obtain ⟨r51, h52, hm⟩ := o1_some hm
  refine q_callS (pc := 65) (As := [.long r49, .int r50]) (rest := []) C (c_Te_mixed hi h52) tw_787 tw_788 tw_2 tw_789 (nA := 2) (by decide +kernel) rfl (by decide) (Nat.le_of_ble_eq_true rfl) rfl dX8_digest_65 ?_
  refine q_lstore_n (pc := 68) (lv' := [(1, .long r51), (4, .int (4 : Int32)), (3, .int (2 : Int32)), (0, .ref (gad G 0))]) C dX8_digest_68 rfl (by decide) rfl ?_
  refine q_iinc (pc := 69) (k := 1) (v := (5 : Int32)) (lv' := [(4, .int (5 : Int32)), (1, .long r51), (3, .int (2 : Int32)), (0, .ref (gad G 0))]) C dX8_digest_69 rfl (by decide) (by decide) rfl ?_
  refine q_goto (pc := 72) (tgt := 50) C dX8_digest_72 (by decide) ?_
  refine q_iload (pc := 50) C dX8_digest_50 0 rfl ?_
  refine q_bipush (pc := 52) (v := (7 : Int32)) C dX8_digest_52 (by decide) ?_
  refine q_icmp_gt (pc := 54) (tgt := 75) C dX8_digest_54 (by decide) (fun c => absurd c (by decide)) (fun _ => ?_)
  refine q_lload_n (pc := 57) C dX8_digest_57 rfl 1 rfl ?_
  refine q_aload_n (pc := 58) C dX8_digest_58 rfl 3 rfl ?_
  refine q_iload_n (pc := 59) C dX8_digest_59 rfl 2 rfl ?_
  refine q_iload (pc := 60) C dX8_digest_60 0 rfl ?_
  obtain ⟨r52, S26, h53, hm⟩ := ob_some hm
  refine q_callV (pc := 62) (k := 0) (As := [.int (2 : Int32), .int (5 : Int32)]) (rest := [.long r51]) (T := TX8) C (c_Te_told hi h53) (by decide) (ce_0 _ _ _) (ci := 6) rfl tw_797 tw_710 tw_711 tw_2 tw_712 (nA := 2) (by decide +kernel) rfl (by decide) (Nat.le_of_ble_eq_true rfl) rfl dX8_digest_62 ?_
  obtain ⟨r53, h54, hm⟩ := o1_some hm
  refine q_callS (pc := 65) (As := [.long r51, .int r52]) (rest := []) C (c_Te_mixed hi h54) tw_787 tw_788 tw_2 tw_789 (nA := 2) (by decide +kernel) rfl (by decide) (Nat.le_of_ble_eq_true rfl) rfl dX8_digest_65 ?_
  refine q_lstore_n (pc := 68) (lv' := [(1, .long r53), (4, .int (5 : Int32)), (3, .int (2 : Int32)), (0, .ref (gad G 0))]) C dX8_digest_68 rfl (by decide) rfl ?_
  refine q_iinc (pc := 69) (k := 1) (v := (6 : Int32)) (lv' := [(4, .int (6 : Int32)), (1, .long r53), (3, .int (2 : Int32)), (0, .ref (gad G 0))]) C dX8_digest_69 rfl (by decide) (by decide) rfl ?_
  refine q_goto (pc := 72) (tgt := 50) C dX8_digest_72 (by decide) ?_
  refine q_iload (pc := 50) C dX8_digest_50 0 rfl ?_
  refine q_bipush (pc := 52) (v := (7 : Int32)) C dX8_digest_52 (by decide) ?_
  refine q_icmp_gt (pc := 54) (tgt := 75) C dX8_digest_54 (by decide) (fun c => absurd c (by decide)) (fun _ => ?_)
  refine q_lload_n (pc := 57) C dX8_digest_57 rfl 1 rfl ?_
  refine q_aload_n (pc := 58) C dX8_digest_58 rfl 3 rfl ?_
  refine q_iload_n (pc := 59) C dX8_digest_59 rfl 2 rfl ?_
  refine q_iload (pc := 60) C dX8_digest_60 0 rfl ?_
  obtain ⟨r54, S27, h55, hm⟩ := ob_some hm
  refine q_callV (pc := 62) (k := 0) (As := [.int (2 : Int32), .int (6 : Int32)]) (rest := [.long r53]) (T := TX8) C (c_Te_told hi h55) (by decide) (ce_0 _ _ _) (ci := 6) rfl tw_797 tw_710 tw_711 tw_2 tw_712 (nA := 2) (by decide +kernel) rfl (by decide) (Nat.le_of_ble_eq_true rfl) rfl dX8_digest_62 ?_
  obtain ⟨r55, h56, hm⟩ := o1_some hm
  refine q_callS (pc := 65) (As := [.long r53, .int r54]) (rest := []) C (c_Te_mixed hi h56) tw_787 tw_788 tw_2 tw_789 (nA := 2) (by decide +kernel) rfl (by decide) (Nat.le_of_ble_eq_true rfl) rfl dX8_digest_65 ?_
  refine q_lstore_n (pc := 68) (lv' := [(1, .long r55), (4, .int (6 : Int32)), (3, .int (2 : Int32)), (0, .ref (gad G 0))]) C dX8_digest_68 rfl (by decide) rfl ?_
  refine q_iinc (pc := 69) (k := 1) (v := (7 : Int32)) (lv' := [(4, .int (7 : Int32)), (1, .long r55), (3, .int (2 : Int32)), (0, .ref (gad G 0))]) C dX8_digest_69 rfl (by decide) (by decide) rfl ?_
  refine q_goto (pc := 72) (tgt := 50) C dX8_digest_72 (by decide) ?_
  refine q_iload (pc := 50) C dX8_digest_50 0 rfl ?_
  refine q_bipush (pc := 52) (v := (7 : Int32)) C dX8_digest_52 (by decide) ?_
  refine q_icmp_gt (pc := 54) (tgt := 75) C dX8_digest_54 (by decide) (fun c => absurd c (by decide)) (fun _ => ?_)
  refine q_lload_n (pc := 57) C dX8_digest_57 rfl 1 rfl ?_
  refine q_aload_n (pc := 58) C dX8_digest_58 rfl 3 rfl ?_
  refine q_iload_n (pc := 59) C dX8_digest_59 rfl 2 rfl ?_
  refine q_iload (pc := 60) C dX8_digest_60 0 rfl ?_
  obtain ⟨r56, S28, h57, hm⟩ := ob_some hm
  refine q_callV (pc := 62) (k := 0) (As := [.int (2 : Int32), .int (7 : Int32)]) (rest := [.long r55]) (T := TX8) C (c_Te_told hi h57) (by decide) (ce_0 _ _ _) (ci := 6) rfl tw_797 tw_710 tw_711 tw_2 tw_712 (nA := 2) (by decide +kernel) rfl (by decide) (Nat.le_of_ble_eq_true rfl) rfl dX8_digest_62 ?_
  obtain ⟨r57, h58, hm⟩ := o1_some hm
  refine q_callS (pc := 65) (As := [.long r55, .int r56]) (rest := []) C (c_Te_mixed hi h58) tw_787 tw_788 tw_2 tw_789 (nA := 2) (by decide +kernel) rfl (by decide) (Nat.le_of_ble_eq_true rfl) rfl dX8_digest_65 ?_
  refine q_lstore_n (pc := 68) (lv' := [(1, .long r57), (4, .int (7 : Int32)), (3, .int (2 : Int32)), (0, .ref (gad G 0))]) C dX8_digest_68 rfl (by decide) rfl ?_
  refine q_iinc (pc := 69) (k := 1) (v := (8 : Int32)) (lv' := [(4, .int (8 : Int32)), (1, .long r57), (3, .int (2 : Int32)), (0, .ref (gad G 0))]) C dX8_digest_69 rfl (by decide) (by decide) rfl ?_
  refine q_goto (pc := 72) (tgt := 50) C dX8_digest_72 (by decide) ?_
  refine q_iload (pc := 50) C dX8_digest_50 0 rfl ?_
  refine q_bipush (pc := 52) (v := (7 : Int32)) C dX8_digest_52 (by decide) ?_
  refine q_icmp_gt (pc := 54) (tgt := 75) C dX8_digest_54 (by decide) (fun _ => ?_) (fun c => absurd c (by decide))
  refine q_lload_n (pc := 75) C dX8_digest_75 rfl 1 rfl ?_
  refine q_aload_n (pc := 76) C dX8_digest_76 rfl 3 rfl ?_
  refine q_iload_n (pc := 77) C dX8_digest_77 rfl 2 rfl ?_
  obtain ⟨r58, S29, h59, hm⟩ := ob_some hm
  refine q_callV (pc := 78) (k := 0) (As := [.int (2 : Int32)]) (rest := [.long r57]) (T := TX8) C (c_Te_wouldGo hi h59) (by decide) (ce_0 _ _ _) (ci := 6) rfl tw_798 tw_799 tw_800 tw_2 tw_801 (nA := 1) (by decide +kernel) rfl (by decide) (Nat.le_of_ble_eq_true rfl) rfl dX8_digest_78 ?_
  obtain ⟨r59, h60, hm⟩ := o1_some hm
  refine q_callS (pc := 81) (As := [.long r57, .int r58]) (rest := []) C (c_Te_mixed hi h60) tw_787 tw_788 tw_2 tw_789 (nA := 2) (by decide +kernel) rfl (by decide) (Nat.le_of_ble_eq_true rfl) rfl dX8_digest_81 ?_
  refine q_lstore_n (pc := 84) (lv' := [(1, .long r59), (4, .int (8 : Int32)), (3, .int (2 : Int32)), (0, .ref (gad G 0))]) C dX8_digest_84 rfl (by decide) rfl ?_
  refine q_lload_n (pc := 85) C dX8_digest_85 rfl 0 rfl ?_
  refine q_aload_n (pc := 86) C dX8_digest_86 rfl 3 rfl ?_
  refine q_iload_n (pc := 87) C dX8_digest_87 rfl 2 rfl ?_
  obtain ⟨r60, S30, h61, hm⟩ := ob_some hm
  refine q_callV (pc := 88) (k := 0) (As := [.int (2 : Int32)]) (rest := [.long r59]) (T := TX8) C (c_Te_wouldWork hi h61) (by decide) (ce_0 _ _ _) (ci := 6) rfl tw_831 tw_832 tw_833 tw_2 tw_834 (nA := 1) (by decide +kernel) rfl (by decide) (Nat.le_of_ble_eq_true rfl) rfl dX8_digest_88 ?_
  obtain ⟨r61, h62, hm⟩ := o1_some hm
  refine q_callS (pc := 91) (As := [.long r59, .int r60]) (rest := []) C (c_Te_mixed hi h62) tw_787 tw_788 tw_2 tw_789 (nA := 2) (by decide +kernel) rfl (by decide) (Nat.le_of_ble_eq_true rfl) rfl dX8_digest_91 ?_
  refine q_lstore_n (pc := 94) (lv' := [(1, .long r61), (4, .int (8 : Int32)), (3, .int (2 : Int32)), (0, .ref (gad G 0))]) C dX8_digest_94 rfl (by decide) rfl ?_
  refine q_iinc (pc := 95) (k := 2) (v := (3 : Int32)) (lv' := [(3, .int (3 : Int32)), (1, .long r61), (4, .int (8 : Int32)), (0, .ref (gad G 0))]) C dX8_digest_95 rfl (by decide) (by decide) rfl ?_
  refine q_goto (pc := 98) (tgt := 42) C dX8_digest_98 (by decide) ?_
  refine q_iload_n (pc := 42) C dX8_digest_42 rfl 0 rfl ?_
  refine q_iconst (pc := 43) (v := (4 : Int32)) C dX8_digest_43 (by decide) ?_
  refine q_icmp_ge (pc := 44) (tgt := 101) C dX8_digest_44 (by decide) (fun c => absurd c (by decide)) (fun _ => ?_)
  refine q_iconst (pc := 47) (v := (0 : Int32)) C dX8_digest_47 (by decide) ?_
  refine q_istore (pc := 48) (lv' := [(4, .int (0 : Int32)), (3, .int (3 : Int32)), (1, .long r61), (0, .ref (gad G 0))]) C dX8_digest_48 (by decide) rfl ?_
  refine q_iload (pc := 50) C dX8_digest_50 0 rfl ?_
  refine q_bipush (pc := 52) (v := (7 : Int32)) C dX8_digest_52 (by decide) ?_
  refine q_icmp_gt (pc := 54) (tgt := 75) C dX8_digest_54 (by decide) (fun c => absurd c (by decide)) (fun _ => ?_)
  refine q_lload_n (pc := 57) C dX8_digest_57 rfl 2 rfl ?_
  refine q_aload_n (pc := 58) C dX8_digest_58 rfl 3 rfl ?_
  refine q_iload_n (pc := 59) C dX8_digest_59 rfl 1 rfl ?_
  refine q_iload (pc := 60) C dX8_digest_60 0 rfl ?_
  obtain ⟨r62, S31, h63, hm⟩ := ob_some hm
  refine q_callV (pc := 62) (k := 0) (As := [.int (3 : Int32), .int (0 : Int32)]) (rest := [.long r61]) (T := TX8) C (c_Te_told hi h63) (by decide) (ce_0 _ _ _) (ci := 6) rfl tw_797 tw_710 tw_711 tw_2 tw_712 (nA := 2) (by decide +kernel) rfl (by decide) (Nat.le_of_ble_eq_true rfl) rfl dX8_digest_62 ?_
  obtain ⟨r63, h64, hm⟩ := o1_some hm
  refine q_callS (pc := 65) (As := [.long r61, .int r62]) (rest := []) C (c_Te_mixed hi h64) tw_787 tw_788 tw_2 tw_789 (nA := 2) (by decide +kernel) rfl (by decide) (Nat.le_of_ble_eq_true rfl) rfl dX8_digest_65 ?_
  refine q_lstore_n (pc := 68) (lv' := [(1, .long r63), (4, .int (0 : Int32)), (3, .int (3 : Int32)), (0, .ref (gad G 0))]) C dX8_digest_68 rfl (by decide) rfl ?_
  refine q_iinc (pc := 69) (k := 1) (v := (1 : Int32)) (lv' := [(4, .int (1 : Int32)), (1, .long r63), (3, .int (3 : Int32)), (0, .ref (gad G 0))]) C dX8_digest_69 rfl (by decide) (by decide) rfl ?_
  refine q_goto (pc := 72) (tgt := 50) C dX8_digest_72 (by decide) ?_
  refine q_iload (pc := 50) C dX8_digest_50 0 rfl ?_
  refine q_bipush (pc := 52) (v := (7 : Int32)) C dX8_digest_52 (by decide) ?_
  refine q_icmp_gt (pc := 54) (tgt := 75) C dX8_digest_54 (by decide) (fun c => absurd c (by decide)) (fun _ => ?_)
  refine q_lload_n (pc := 57) C dX8_digest_57 rfl 1 rfl ?_
  refine q_aload_n (pc := 58) C dX8_digest_58 rfl 3 rfl ?_
  refine q_iload_n (pc := 59) C dX8_digest_59 rfl 2 rfl ?_
  refine q_iload (pc := 60) C dX8_digest_60 0 rfl ?_
  obtain ⟨r64, S32, h65, hm⟩ := ob_some hm
  refine q_callV (pc := 62) (k := 0) (As := [.int (3 : Int32), .int (1 : Int32)]) (rest := [.long r63]) (T := TX8) C (c_Te_told hi h65) (by decide) (ce_0 _ _ _) (ci := 6) rfl tw_797 tw_710 tw_711 tw_2 tw_712 (nA := 2) (by decide +kernel) rfl (by decide) (Nat.le_of_ble_eq_true rfl) rfl dX8_digest_62 ?_
  obtain ⟨r65, h66, hm⟩ := o1_some hm
  refine q_callS (pc := 65) (As := [.long r63, .int r64]) (rest := []) C (c_Te_mixed hi h66) tw_787 tw_788 tw_2 tw_789 (nA := 2) (by decide +kernel) rfl (by decide) (Nat.le_of_ble_eq_true rfl) rfl dX8_digest_65 ?_
  refine q_lstore_n (pc := 68) (lv' := [(1, .long r65), (4, .int (1 : Int32)), (3, .int (3 : Int32)), (0, .ref (gad G 0))]) C dX8_digest_68 rfl (by decide) rfl ?_
  refine q_iinc (pc := 69) (k := 1) (v := (2 : Int32)) (lv' := [(4, .int (2 : Int32)), (1, .long r65), (3, .int (3 : Int32)), (0, .ref (gad G 0))]) C dX8_digest_69 rfl (by decide) (by decide) rfl ?_
  refine q_goto (pc := 72) (tgt := 50) C dX8_digest_72 (by decide) ?_
  refine q_iload (pc := 50) C dX8_digest_50 0 rfl ?_
  refine q_bipush (pc := 52) (v := (7 : Int32)) C dX8_digest_52 (by decide) ?_
  refine q_icmp_gt (pc := 54) (tgt := 75) C dX8_digest_54 (by decide) (fun c => absurd c (by decide)) (fun _ => ?_)
  refine q_lload_n (pc := 57) C dX8_digest_57 rfl 1 rfl ?_
  refine q_aload_n (pc := 58) C dX8_digest_58 rfl 3 rfl ?_
  refine q_iload_n (pc := 59) C dX8_digest_59 rfl 2 rfl ?_
  refine q_iload (pc := 60) C dX8_digest_60 0 rfl ?_
  obtain ⟨r66, S33, h67, hm⟩ := ob_some hm
  refine q_callV (pc := 62) (k := 0) (As := [.int (3 : Int32), .int (2 : Int32)]) (rest := [.long r65]) (T := TX8) C (c_Te_told hi h67) (by decide) (ce_0 _ _ _) (ci := 6) rfl tw_797 tw_710 tw_711 tw_2 tw_712 (nA := 2) (by decide +kernel) rfl (by decide) (Nat.le_of_ble_eq_true rfl) rfl dX8_digest_62 ?_
  obtain ⟨r67, h68, hm⟩ := o1_some hm
  refine q_callS (pc := 65) (As := [.long r65, .int r66]) (rest := []) C (c_Te_mixed hi h68) tw_787 tw_788 tw_2 tw_789 (nA := 2) (by decide +kernel) rfl (by decide) (Nat.le_of_ble_eq_true rfl) rfl dX8_digest_65 ?_
  refine q_lstore_n (pc := 68) (lv' := [(1, .long r67), (4, .int (2 : Int32)), (3, .int (3 : Int32)), (0, .ref (gad G 0))]) C dX8_digest_68 rfl (by decide) rfl ?_
  refine q_iinc (pc := 69) (k := 1) (v := (3 : Int32)) (lv' := [(4, .int (3 : Int32)), (1, .long r67), (3, .int (3 : Int32)), (0, .ref (gad G 0))]) C dX8_digest_69 rfl (by decide) (by decide) rfl ?_
  refine q_goto (pc := 72) (tgt := 50) C dX8_digest_72 (by decide) ?_
  refine q_iload (pc := 50) C dX8_digest_50 0 rfl ?_
  refine q_bipush (pc := 52) (v := (7 : Int32)) C dX8_digest_52 (by decide) ?_
  refine q_icmp_gt (pc := 54) (tgt := 75) C dX8_digest_54 (by decide) (fun c => absurd c (by decide)) (fun _ => ?_)
  refine q_lload_n (pc := 57) C dX8_digest_57 rfl 1 rfl ?_
  refine q_aload_n (pc := 58) C dX8_digest_58 rfl 3 rfl ?_
  refine q_iload_n (pc := 59) C dX8_digest_59 rfl 2 rfl ?_
  refine q_iload (pc := 60) C dX8_digest_60 0 rfl ?_
  obtain ⟨r68, S34, h69, hm⟩ := ob_some hm
  refine q_callV (pc := 62) (k := 0) (As := [.int (3 : Int32), .int (3 : Int32)]) (rest := [.long r67]) (T := TX8) C (c_Te_told hi h69) (by decide) (ce_0 _ _ _) (ci := 6) rfl tw_797 tw_710 tw_711 tw_2 tw_712 (nA := 2) (by decide +kernel) rfl (by decide) (Nat.le_of_ble_eq_true rfl) rfl dX8_digest_62 ?_
  obtain ⟨r69, h70, hm⟩ := o1_some hm
  refine q_callS (pc := 65) (As := [.long r67, .int r68]) (rest := []) C (c_Te_mixed hi h70) tw_787 tw_788 tw_2 tw_789 (nA := 2) (by decide +kernel) rfl (by decide) (Nat.le_of_ble_eq_true rfl) rfl dX8_digest_65 ?_
  refine q_lstore_n (pc := 68) (lv' := [(1, .long r69), (4, .int (3 : Int32)), (3, .int (3 : Int32)), (0, .ref (gad G 0))]) C dX8_digest_68 rfl (by decide) rfl ?_
  refine q_iinc (pc := 69) (k := 1) (v := (4 : Int32)) (lv' := [(4, .int (4 : Int32)), (1, .long r69), (3, .int (3 : Int32)), (0, .ref (gad G 0))]) C dX8_digest_69 rfl (by decide) (by decide) rfl ?_
  refine q_goto (pc := 72) (tgt := 50) C dX8_digest_72 (by decide) ?_
  refine q_iload (pc := 50) C dX8_digest_50 0 rfl ?_
  refine q_bipush (pc := 52) (v := (7 : Int32)) C dX8_digest_52 (by decide) ?_
  refine q_icmp_gt (pc := 54) (tgt := 75) C dX8_digest_54 (by decide) (fun c => absurd c (by decide)) (fun _ => ?_)
  refine q_lload_n (pc := 57) C dX8_digest_57 rfl 1 rfl ?_
  refine q_aload_n (pc := 58) C dX8_digest_58 rfl 3 rfl ?_
  refine q_iload_n (pc := 59) C dX8_digest_59 rfl 2 rfl ?_
  refine q_iload (pc := 60) C dX8_digest_60 0 rfl ?_
  obtain ⟨r70, S35, h71, hm⟩ := ob_some hm
  refine q_callV (pc := 62) (k := 0) (As := [.int (3 : Int32), .int (4 : Int32)]) (rest := [.long r69]) (T := TX8) C (c_Te_told hi h71) (by decide) (ce_0 _ _ _) (ci := 6) rfl tw_797 tw_710 tw_711 tw_2 tw_712 (nA := 2) (by decide +kernel) rfl (by decide) (Nat.le_of_ble_eq_true rfl) rfl dX8_digest_62 ?_
  obtain ⟨r71, h72, hm⟩ := o1_some hm
  refine q_callS (pc := 65) (As := [.long r69, .int r70]) (rest := []) C (c_Te_mixed hi h72) tw_787 tw_788 tw_2 tw_789 (nA := 2) (by decide +kernel) rfl (by decide) (Nat.le_of_ble_eq_true rfl) rfl dX8_digest_65 ?_
  refine q_lstore_n (pc := 68) (lv' := [(1, .long r71), (4, .int (4 : Int32)), (3, .int (3 : Int32)), (0, .ref (gad G 0))]) C dX8_digest_68 rfl (by decide) rfl ?_
  refine q_iinc (pc := 69) (k := 1) (v := (5 : Int32)) (lv' := [(4, .int (5 : Int32)), (1, .long r71), (3, .int (3 : Int32)), (0, .ref (gad G 0))]) C dX8_digest_69 rfl (by decide) (by decide) rfl ?_
  refine q_goto (pc := 72) (tgt := 50) C dX8_digest_72 (by decide) ?_
  refine q_iload (pc := 50) C dX8_digest_50 0 rfl ?_
  refine q_bipush (pc := 52) (v := (7 : Int32)) C dX8_digest_52 (by decide) ?_
  refine q_icmp_gt (pc := 54) (tgt := 75) C dX8_digest_54 (by decide) (fun c => absurd c (by decide)) (fun _ => ?_)
  refine q_lload_n (pc := 57) C dX8_digest_57 rfl 1 rfl ?_
  refine q_aload_n (pc := 58) C dX8_digest_58 rfl 3 rfl ?_
  refine q_iload_n (pc := 59) C dX8_digest_59 rfl 2 rfl ?_
  refine q_iload (pc := 60) C dX8_digest_60 0 rfl ?_
  obtain ⟨r72, S36, h73, hm⟩ := ob_some hm
  refine q_callV (pc := 62) (k := 0) (As := [.int (3 : Int32), .int (5 : Int32)]) (rest := [.long r71]) (T := TX8) C (c_Te_told hi h73) (by decide) (ce_0 _ _ _) (ci := 6) rfl tw_797 tw_710 tw_711 tw_2 tw_712 (nA := 2) (by decide +kernel) rfl (by decide) (Nat.le_of_ble_eq_true rfl) rfl dX8_digest_62 ?_
  obtain ⟨r73, h74, hm⟩ := o1_some hm
  refine q_callS (pc := 65) (As := [.long r71, .int r72]) (rest := []) C (c_Te_mixed hi h74) tw_787 tw_788 tw_2 tw_789 (nA := 2) (by decide +kernel) rfl (by decide) (Nat.le_of_ble_eq_true rfl) rfl dX8_digest_65 ?_
  refine q_lstore_n (pc := 68) (lv' := [(1, .long r73), (4, .int (5 : Int32)), (3, .int (3 : Int32)), (0, .ref (gad G 0))]) C dX8_digest_68 rfl (by decide) rfl ?_
  refine q_iinc (pc := 69) (k := 1) (v := (6 : Int32)) (lv' := [(4, .int (6 : Int32)), (1, .long r73), (3, .int (3 : Int32)), (0, .ref (gad G 0))]) C dX8_digest_69 rfl (by decide) (by decide) rfl ?_
  refine q_goto (pc := 72) (tgt := 50) C dX8_digest_72 (by decide) ?_
  refine q_iload (pc := 50) C dX8_digest_50 0 rfl ?_
  refine q_bipush (pc := 52) (v := (7 : Int32)) C dX8_digest_52 (by decide) ?_
  refine q_icmp_gt (pc := 54) (tgt := 75) C dX8_digest_54 (by decide) (fun c => absurd c (by decide)) (fun _ => ?_)
  refine q_lload_n (pc := 57) C dX8_digest_57 rfl 1 rfl ?_
  refine q_aload_n (pc := 58) C dX8_digest_58 rfl 3 rfl ?_
  refine q_iload_n (pc := 59) C dX8_digest_59 rfl 2 rfl ?_
  refine q_iload (pc := 60) C dX8_digest_60 0 rfl ?_
  obtain ⟨r74, S37, h75, hm⟩ := ob_some hm
  refine q_callV (pc := 62) (k := 0) (As := [.int (3 : Int32), .int (6 : Int32)]) (rest := [.long r73]) (T := TX8) C (c_Te_told hi h75) (by decide) (ce_0 _ _ _) (ci := 6) rfl tw_797 tw_710 tw_711 tw_2 tw_712 (nA := 2) (by decide +kernel) rfl (by decide) (Nat.le_of_ble_eq_true rfl) rfl dX8_digest_62 ?_
  obtain ⟨r75, h76, hm⟩ := o1_some hm
  refine q_callS (pc := 65) (As := [.long r73, .int r74]) (rest := []) C (c_Te_mixed hi h76) tw_787 tw_788 tw_2 tw_789 (nA := 2) (by decide +kernel) rfl (by decide) (Nat.le_of_ble_eq_true rfl) rfl dX8_digest_65 ?_
  refine q_lstore_n (pc := 68) (lv' := [(1, .long r75), (4, .int (6 : Int32)), (3, .int (3 : Int32)), (0, .ref (gad G 0))]) C dX8_digest_68 rfl (by decide) rfl ?_
  refine q_iinc (pc := 69) (k := 1) (v := (7 : Int32)) (lv' := [(4, .int (7 : Int32)), (1, .long r75), (3, .int (3 : Int32)), (0, .ref (gad G 0))]) C dX8_digest_69 rfl (by decide) (by decide) rfl ?_
  refine q_goto (pc := 72) (tgt := 50) C dX8_digest_72 (by decide) ?_
  refine q_iload (pc := 50) C dX8_digest_50 0 rfl ?_
  refine q_bipush (pc := 52) (v := (7 : Int32)) C dX8_digest_52 (by decide) ?_
  refine q_icmp_gt (pc := 54) (tgt := 75) C dX8_digest_54 (by decide) (fun c => absurd c (by decide)) (fun _ => ?_)
  refine q_lload_n (pc := 57) C dX8_digest_57 rfl 1 rfl ?_
  refine q_aload_n (pc := 58) C dX8_digest_58 rfl 3 rfl ?_
  refine q_iload_n (pc := 59) C dX8_digest_59 rfl 2 rfl ?_
  refine q_iload (pc := 60) C dX8_digest_60 0 rfl ?_
  obtain ⟨r76, S38, h77, hm⟩ := ob_some hm
  refine q_callV (pc := 62) (k := 0) (As := [.int (3 : Int32), .int (7 : Int32)]) (rest := [.long r75]) (T := TX8) C (c_Te_told hi h77) (by decide) (ce_0 _ _ _) (ci := 6) rfl tw_797 tw_710 tw_711 tw_2 tw_712 (nA := 2) (by decide +kernel) rfl (by decide) (Nat.le_of_ble_eq_true rfl) rfl dX8_digest_62 ?_
  obtain ⟨r77, h78, hm⟩ := o1_some hm
  refine q_callS (pc := 65) (As := [.long r75, .int r76]) (rest := []) C (c_Te_mixed hi h78) tw_787 tw_788 tw_2 tw_789 (nA := 2) (by decide +kernel) rfl (by decide) (Nat.le_of_ble_eq_true rfl) rfl dX8_digest_65 ?_
  refine q_lstore_n (pc := 68) (lv' := [(1, .long r77), (4, .int (7 : Int32)), (3, .int (3 : Int32)), (0, .ref (gad G 0))]) C dX8_digest_68 rfl (by decide) rfl ?_
  refine q_iinc (pc := 69) (k := 1) (v := (8 : Int32)) (lv' := [(4, .int (8 : Int32)), (1, .long r77), (3, .int (3 : Int32)), (0, .ref (gad G 0))]) C dX8_digest_69 rfl (by decide) (by decide) rfl ?_
  refine q_goto (pc := 72) (tgt := 50) C dX8_digest_72 (by decide) ?_
  refine q_iload (pc := 50) C dX8_digest_50 0 rfl ?_
  refine q_bipush (pc := 52) (v := (7 : Int32)) C dX8_digest_52 (by decide) ?_
  refine q_icmp_gt (pc := 54) (tgt := 75) C dX8_digest_54 (by decide) (fun _ => ?_) (fun c => absurd c (by decide))
  refine q_lload_n (pc := 75) C dX8_digest_75 rfl 1 rfl ?_
  refine q_aload_n (pc := 76) C dX8_digest_76 rfl 3 rfl ?_
  refine q_iload_n (pc := 77) C dX8_digest_77 rfl 2 rfl ?_
  obtain ⟨r78, S39, h79, hm⟩ := ob_some hm
  refine q_callV (pc := 78) (k := 0) (As := [.int (3 : Int32)]) (rest := [.long r77]) (T := TX8) C (c_Te_wouldGo hi h79) (by decide) (ce_0 _ _ _) (ci := 6) rfl tw_798 tw_799 tw_800 tw_2 tw_801 (nA := 1) (by decide +kernel) rfl (by decide) (Nat.le_of_ble_eq_true rfl) rfl dX8_digest_78 ?_
  obtain ⟨r79, h80, hm⟩ := o1_some hm
  refine q_callS (pc := 81) (As := [.long r77, .int r78]) (rest := []) C (c_Te_mixed hi h80) tw_787 tw_788 tw_2 tw_789 (nA := 2) (by decide +kernel) rfl (by decide) (Nat.le_of_ble_eq_true rfl) rfl dX8_digest_81 ?_
  refine q_lstore_n (pc := 84) (lv' := [(1, .long r79), (4, .int (8 : Int32)), (3, .int (3 : Int32)), (0, .ref (gad G 0))]) C dX8_digest_84 rfl (by decide) rfl ?_
  refine q_lload_n (pc := 85) C dX8_digest_85 rfl 0 rfl ?_
  refine q_aload_n (pc := 86) C dX8_digest_86 rfl 3 rfl ?_
  refine q_iload_n (pc := 87) C dX8_digest_87 rfl 2 rfl ?_
  obtain ⟨r80, S40, h81, hm⟩ := ob_some hm
  refine q_callV (pc := 88) (k := 0) (As := [.int (3 : Int32)]) (rest := [.long r79]) (T := TX8) C (c_Te_wouldWork hi h81) (by decide) (ce_0 _ _ _) (ci := 6) rfl tw_831 tw_832 tw_833 tw_2 tw_834 (nA := 1) (by decide +kernel) rfl (by decide) (Nat.le_of_ble_eq_true rfl) rfl dX8_digest_88 ?_
  obtain ⟨r81, h82, hm⟩ := o1_some hm
  refine q_callS (pc := 91) (As := [.long r79, .int r80]) (rest := []) C (c_Te_mixed hi h82) tw_787 tw_788 tw_2 tw_789 (nA := 2) (by decide +kernel) rfl (by decide) (Nat.le_of_ble_eq_true rfl) rfl dX8_digest_91 ?_
  refine q_lstore_n (pc := 94) (lv' := [(1, .long r81), (4, .int (8 : Int32)), (3, .int (3 : Int32)), (0, .ref (gad G 0))]) C dX8_digest_94 rfl (by decide) rfl ?_
  refine q_iinc (pc := 95) (k := 2) (v := (4 : Int32)) (lv' := [(3, .int (4 : Int32)), (1, .long r81), (4, .int (8 : Int32)), (0, .ref (gad G 0))]) C dX8_digest_95 rfl (by decide) (by decide) rfl ?_
  refine q_goto (pc := 98) (tgt := 42) C dX8_digest_98 (by decide) ?_
  refine q_iload_n (pc := 42) C dX8_digest_42 rfl 0 rfl ?_
  refine q_iconst (pc := 43) (v := (4 : Int32)) C dX8_digest_43 (by decide) ?_
  refine q_icmp_ge (pc := 44) (tgt := 101) C dX8_digest_44 (by decide) (fun _ => ?_) (fun c => absurd c (by decide))
  refine q_iconst (pc := 101) (v := (0 : Int32)) C dX8_digest_101 (by decide) ?_
  refine q_istore_n (pc := 102) (lv' := [(3, .int (0 : Int32)), (1, .long r81), (4, .int (8 : Int32)), (0, .ref (gad G 0))]) C dX8_digest_102 rfl (by decide) rfl ?_
  refine q_iload_n (pc := 103) C dX8_digest_103 rfl 0 rfl ?_
  refine q_iconst (pc := 104) (v := (3 : Int32)) C dX8_digest_104 (by decide) ?_
  refine q_icmp_gt (pc := 105) (tgt := 124) C dX8_digest_105 (by decide) (fun c => absurd c (by decide)) (fun _ => ?_)
  refine q_lload_n (pc := 108) C dX8_digest_108 rfl 1 rfl ?_
  refine q_aload_n (pc := 109) C dX8_digest_109 rfl 3 rfl ?_
  refine q_iload_n (pc := 110) C dX8_digest_110 rfl 0 rfl ?_
  obtain ⟨r82, h83, hm⟩ := o1_some hm
  refine q_callV (pc := 111) (k := 0) (As := [.int (0 : Int32)]) (rest := [.long r81]) (T := TX8) C (c_Te_more hi h83) (by decide) (ce_0 _ _ _) (ci := 6) rfl tw_852 tw_853 tw_854 tw_2 tw_855 (nA := 1) (by decide +kernel) rfl (by decide) (Nat.le_of_ble_eq_true rfl) rfl dX8_digest_111 ?_
  obtain ⟨r83, h84, hm⟩ := o1_some hm
  refine q_callS (pc := 114) (As := [.long r81, .int r82]) (rest := []) C (c_Te_mixed hi h84) tw_787 tw_788 tw_2 tw_789 (nA := 2) (by decide +kernel) rfl (by decide) (Nat.le_of_ble_eq_true rfl) rfl dX8_digest_114 ?_
  refine q_lstore_n (pc := 117) (lv' := [(1, .long r83), (3, .int (0 : Int32)), (4, .int (8 : Int32)), (0, .ref (gad G 0))]) C dX8_digest_117 rfl (by decide) rfl ?_
  refine q_iinc (pc := 118) (k := 1) (v := (1 : Int32)) (lv' := [(3, .int (1 : Int32)), (1, .long r83), (4, .int (8 : Int32)), (0, .ref (gad G 0))]) C dX8_digest_118 rfl (by decide) (by decide) rfl ?_
  refine q_goto (pc := 121) (tgt := 103) C dX8_digest_121 (by decide) ?_
  refine q_iload_n (pc := 103) C dX8_digest_103 rfl 0 rfl ?_
  refine q_iconst (pc := 104) (v := (3 : Int32)) C dX8_digest_104 (by decide) ?_
  refine q_icmp_gt (pc := 105) (tgt := 124) C dX8_digest_105 (by decide) (fun c => absurd c (by decide)) (fun _ => ?_)
  refine q_lload_n (pc := 108) C dX8_digest_108 rfl 1 rfl ?_
  refine q_aload_n (pc := 109) C dX8_digest_109 rfl 3 rfl ?_
  refine q_iload_n (pc := 110) C dX8_digest_110 rfl 0 rfl ?_
  obtain ⟨r84, h85, hm⟩ := o1_some hm
  refine q_callV (pc := 111) (k := 0) (As := [.int (1 : Int32)]) (rest := [.long r83]) (T := TX8) C (c_Te_more hi h85) (by decide) (ce_0 _ _ _) (ci := 6) rfl tw_852 tw_853 tw_854 tw_2 tw_855 (nA := 1) (by decide +kernel) rfl (by decide) (Nat.le_of_ble_eq_true rfl) rfl dX8_digest_111 ?_
  obtain ⟨r85, h86, hm⟩ := o1_some hm
  refine q_callS (pc := 114) (As := [.long r83, .int r84]) (rest := []) C (c_Te_mixed hi h86) tw_787 tw_788 tw_2 tw_789 (nA := 2) (by decide +kernel) rfl (by decide) (Nat.le_of_ble_eq_true rfl) rfl dX8_digest_114 ?_
  refine q_lstore_n (pc := 117) (lv' := [(1, .long r85), (3, .int (1 : Int32)), (4, .int (8 : Int32)), (0, .ref (gad G 0))]) C dX8_digest_117 rfl (by decide) rfl ?_
  refine q_iinc (pc := 118) (k := 1) (v := (2 : Int32)) (lv' := [(3, .int (2 : Int32)), (1, .long r85), (4, .int (8 : Int32)), (0, .ref (gad G 0))]) C dX8_digest_118 rfl (by decide) (by decide) rfl ?_
  refine q_goto (pc := 121) (tgt := 103) C dX8_digest_121 (by decide) ?_
  refine q_iload_n (pc := 103) C dX8_digest_103 rfl 0 rfl ?_
  refine q_iconst (pc := 104) (v := (3 : Int32)) C dX8_digest_104 (by decide) ?_
  refine q_icmp_gt (pc := 105) (tgt := 124) C dX8_digest_105 (by decide) (fun c => absurd c (by decide)) (fun _ => ?_)
  refine q_lload_n (pc := 108) C dX8_digest_108 rfl 1 rfl ?_
  refine q_aload_n (pc := 109) C dX8_digest_109 rfl 3 rfl ?_
  refine q_iload_n (pc := 110) C dX8_digest_110 rfl 0 rfl ?_
  obtain ⟨r86, h87, hm⟩ := o1_some hm
  refine q_callV (pc := 111) (k := 0) (As := [.int (2 : Int32)]) (rest := [.long r85]) (T := TX8) C (c_Te_more hi h87) (by decide) (ce_0 _ _ _) (ci := 6) rfl tw_852 tw_853 tw_854 tw_2 tw_855 (nA := 1) (by decide +kernel) rfl (by decide) (Nat.le_of_ble_eq_true rfl) rfl dX8_digest_111 ?_
  obtain ⟨r87, h88, hm⟩ := o1_some hm
  refine q_callS (pc := 114) (As := [.long r85, .int r86]) (rest := []) C (c_Te_mixed hi h88) tw_787 tw_788 tw_2 tw_789 (nA := 2) (by decide +kernel) rfl (by decide) (Nat.le_of_ble_eq_true rfl) rfl dX8_digest_114 ?_
  refine q_lstore_n (pc := 117) (lv' := [(1, .long r87), (3, .int (2 : Int32)), (4, .int (8 : Int32)), (0, .ref (gad G 0))]) C dX8_digest_117 rfl (by decide) rfl ?_
  refine q_iinc (pc := 118) (k := 1) (v := (3 : Int32)) (lv' := [(3, .int (3 : Int32)), (1, .long r87), (4, .int (8 : Int32)), (0, .ref (gad G 0))]) C dX8_digest_118 rfl (by decide) (by decide) rfl ?_
  refine q_goto (pc := 121) (tgt := 103) C dX8_digest_121 (by decide) ?_
  refine q_iload_n (pc := 103) C dX8_digest_103 rfl 0 rfl ?_
  refine q_iconst (pc := 104) (v := (3 : Int32)) C dX8_digest_104 (by decide) ?_
  refine q_icmp_gt (pc := 105) (tgt := 124) C dX8_digest_105 (by decide) (fun c => absurd c (by decide)) (fun _ => ?_)
  refine q_lload_n (pc := 108) C dX8_digest_108 rfl 1 rfl ?_
  refine q_aload_n (pc := 109) C dX8_digest_109 rfl 3 rfl ?_
  refine q_iload_n (pc := 110) C dX8_digest_110 rfl 0 rfl ?_
  obtain ⟨r88, h89, hm⟩ := o1_some hm
  refine q_callV (pc := 111) (k := 0) (As := [.int (3 : Int32)]) (rest := [.long r87]) (T := TX8) C (c_Te_more hi h89) (by decide) (ce_0 _ _ _) (ci := 6) rfl tw_852 tw_853 tw_854 tw_2 tw_855 (nA := 1) (by decide +kernel) rfl (by decide) (Nat.le_of_ble_eq_true rfl) rfl dX8_digest_111 ?_
  obtain ⟨r89, h90, hm⟩ := o1_some hm
  refine q_callS (pc := 114) (As := [.long r87, .int r88]) (rest := []) C (c_Te_mixed hi h90) tw_787 tw_788 tw_2 tw_789 (nA := 2) (by decide +kernel) rfl (by decide) (Nat.le_of_ble_eq_true rfl) rfl dX8_digest_114 ?_
  refine q_lstore_n (pc := 117) (lv' := [(1, .long r89), (3, .int (3 : Int32)), (4, .int (8 : Int32)), (0, .ref (gad G 0))]) C dX8_digest_117 rfl (by decide) rfl ?_
  refine q_iinc (pc := 118) (k := 1) (v := (4 : Int32)) (lv' := [(3, .int (4 : Int32)), (1, .long r89), (4, .int (8 : Int32)), (0, .ref (gad G 0))]) C dX8_digest_118 rfl (by decide) (by decide) rfl ?_
  refine q_goto (pc := 121) (tgt := 103) C dX8_digest_121 (by decide) ?_
  refine q_iload_n (pc := 103) C dX8_digest_103 rfl 0 rfl ?_
  refine q_iconst (pc := 104) (v := (3 : Int32)) C dX8_digest_104 (by decide) ?_
  refine q_icmp_gt (pc := 105) (tgt := 124) C dX8_digest_105 (by decide) (fun _ => ?_) (fun c => absurd c (by decide))
  refine q_iconst (pc := 124) (v := (0 : Int32)) C dX8_digest_124 (by decide) ?_
  refine q_istore_n (pc := 125) (lv' := [(3, .int (0 : Int32)), (1, .long r89), (4, .int (8 : Int32)), (0, .ref (gad G 0))]) C dX8_digest_125 rfl (by decide) rfl ?_
  refine q_iload_n (pc := 126) C dX8_digest_126 rfl 0 rfl ?_
  refine q_bipush (pc := 127) (v := (6 : Int32)) C dX8_digest_127 (by decide) ?_
  refine q_icmp_ge (pc := 129) (tgt := 148) C dX8_digest_129 (by decide) (fun c => absurd c (by decide)) (fun _ => ?_)
  refine q_lload_n (pc := 132) C dX8_digest_132 rfl 1 rfl ?_
  refine q_aload_n (pc := 133) C dX8_digest_133 rfl 3 rfl ?_
  refine q_iload_n (pc := 134) C dX8_digest_134 rfl 0 rfl ?_
  obtain ⟨r90, S41, h91, hm⟩ := ob_some hm
  refine q_callV (pc := 135) (k := 0) (As := [.int (0 : Int32)]) (rest := [.long r89]) (T := TX8) C (c_Te_wouldLose hi h91) (by decide) (ce_0 _ _ _) (ci := 6) rfl tw_860 tw_861 tw_862 tw_2 tw_863 (nA := 1) (by decide +kernel) rfl (by decide) (Nat.le_of_ble_eq_true rfl) rfl dX8_digest_135 ?_
  obtain ⟨r91, h92, hm⟩ := o1_some hm
  refine q_callS (pc := 138) (As := [.long r89, .int r90]) (rest := []) C (c_Te_mixed hi h92) tw_787 tw_788 tw_2 tw_789 (nA := 2) (by decide +kernel) rfl (by decide) (Nat.le_of_ble_eq_true rfl) rfl dX8_digest_138 ?_
  refine q_lstore_n (pc := 141) (lv' := [(1, .long r91), (3, .int (0 : Int32)), (4, .int (8 : Int32)), (0, .ref (gad G 0))]) C dX8_digest_141 rfl (by decide) rfl ?_
  refine q_iinc (pc := 142) (k := 1) (v := (1 : Int32)) (lv' := [(3, .int (1 : Int32)), (1, .long r91), (4, .int (8 : Int32)), (0, .ref (gad G 0))]) C dX8_digest_142 rfl (by decide) (by decide) rfl ?_
  refine q_goto (pc := 145) (tgt := 126) C dX8_digest_145 (by decide) ?_
  refine q_iload_n (pc := 126) C dX8_digest_126 rfl 0 rfl ?_
  refine q_bipush (pc := 127) (v := (6 : Int32)) C dX8_digest_127 (by decide) ?_
  refine q_icmp_ge (pc := 129) (tgt := 148) C dX8_digest_129 (by decide) (fun c => absurd c (by decide)) (fun _ => ?_)
  refine q_lload_n (pc := 132) C dX8_digest_132 rfl 1 rfl ?_
  refine q_aload_n (pc := 133) C dX8_digest_133 rfl 3 rfl ?_
  refine q_iload_n (pc := 134) C dX8_digest_134 rfl 0 rfl ?_
  obtain ⟨r92, S42, h93, hm⟩ := ob_some hm
  refine q_callV (pc := 135) (k := 0) (As := [.int (1 : Int32)]) (rest := [.long r91]) (T := TX8) C (c_Te_wouldLose hi h93) (by decide) (ce_0 _ _ _) (ci := 6) rfl tw_860 tw_861 tw_862 tw_2 tw_863 (nA := 1) (by decide +kernel) rfl (by decide) (Nat.le_of_ble_eq_true rfl) rfl dX8_digest_135 ?_
  obtain ⟨r93, h94, hm⟩ := o1_some hm
  refine q_callS (pc := 138) (As := [.long r91, .int r92]) (rest := []) C (c_Te_mixed hi h94) tw_787 tw_788 tw_2 tw_789 (nA := 2) (by decide +kernel) rfl (by decide) (Nat.le_of_ble_eq_true rfl) rfl dX8_digest_138 ?_
  refine q_lstore_n (pc := 141) (lv' := [(1, .long r93), (3, .int (1 : Int32)), (4, .int (8 : Int32)), (0, .ref (gad G 0))]) C dX8_digest_141 rfl (by decide) rfl ?_
  refine q_iinc (pc := 142) (k := 1) (v := (2 : Int32)) (lv' := [(3, .int (2 : Int32)), (1, .long r93), (4, .int (8 : Int32)), (0, .ref (gad G 0))]) C dX8_digest_142 rfl (by decide) (by decide) rfl ?_
  refine q_goto (pc := 145) (tgt := 126) C dX8_digest_145 (by decide) ?_
  refine q_iload_n (pc := 126) C dX8_digest_126 rfl 0 rfl ?_
  refine q_bipush (pc := 127) (v := (6 : Int32)) C dX8_digest_127 (by decide) ?_
  refine q_icmp_ge (pc := 129) (tgt := 148) C dX8_digest_129 (by decide) (fun c => absurd c (by decide)) (fun _ => ?_)
  refine q_lload_n (pc := 132) C dX8_digest_132 rfl 1 rfl ?_
  refine q_aload_n (pc := 133) C dX8_digest_133 rfl 3 rfl ?_
  refine q_iload_n (pc := 134) C dX8_digest_134 rfl 0 rfl ?_
  obtain ⟨r94, S43, h95, hm⟩ := ob_some hm
  refine q_callV (pc := 135) (k := 0) (As := [.int (2 : Int32)]) (rest := [.long r93]) (T := TX8) C (c_Te_wouldLose hi h95) (by decide) (ce_0 _ _ _) (ci := 6) rfl tw_860 tw_861 tw_862 tw_2 tw_863 (nA := 1) (by decide +kernel) rfl (by decide) (Nat.le_of_ble_eq_true rfl) rfl dX8_digest_135 ?_
  obtain ⟨r95, h96, hm⟩ := o1_some hm
  refine q_callS (pc := 138) (As := [.long r93, .int r94]) (rest := []) C (c_Te_mixed hi h96) tw_787 tw_788 tw_2 tw_789 (nA := 2) (by decide +kernel) rfl (by decide) (Nat.le_of_ble_eq_true rfl) rfl dX8_digest_138 ?_
  refine q_lstore_n (pc := 141) (lv' := [(1, .long r95), (3, .int (2 : Int32)), (4, .int (8 : Int32)), (0, .ref (gad G 0))]) C dX8_digest_141 rfl (by decide) rfl ?_
  refine q_iinc (pc := 142) (k := 1) (v := (3 : Int32)) (lv' := [(3, .int (3 : Int32)), (1, .long r95), (4, .int (8 : Int32)), (0, .ref (gad G 0))]) C dX8_digest_142 rfl (by decide) (by decide) rfl ?_
  refine q_goto (pc := 145) (tgt := 126) C dX8_digest_145 (by decide) ?_
  refine q_iload_n (pc := 126) C dX8_digest_126 rfl 0 rfl ?_
  refine q_bipush (pc := 127) (v := (6 : Int32)) C dX8_digest_127 (by decide) ?_
  refine q_icmp_ge (pc := 129) (tgt := 148) C dX8_digest_129 (by decide) (fun c => absurd c (by decide)) (fun _ => ?_)
  refine q_lload_n (pc := 132) C dX8_digest_132 rfl 1 rfl ?_
  refine q_aload_n (pc := 133) C dX8_digest_133 rfl 3 rfl ?_
  refine q_iload_n (pc := 134) C dX8_digest_134 rfl 0 rfl ?_
  obtain ⟨r96, S44, h97, hm⟩ := ob_some hm
  refine q_callV (pc := 135) (k := 0) (As := [.int (3 : Int32)]) (rest := [.long r95]) (T := TX8) C (c_Te_wouldLose hi h97) (by decide) (ce_0 _ _ _) (ci := 6) rfl tw_860 tw_861 tw_862 tw_2 tw_863 (nA := 1) (by decide +kernel) rfl (by decide) (Nat.le_of_ble_eq_true rfl) rfl dX8_digest_135 ?_
  obtain ⟨r97, h98, hm⟩ := o1_some hm
  refine q_callS (pc := 138) (As := [.long r95, .int r96]) (rest := []) C (c_Te_mixed hi h98) tw_787 tw_788 tw_2 tw_789 (nA := 2) (by decide +kernel) rfl (by decide) (Nat.le_of_ble_eq_true rfl) rfl dX8_digest_138 ?_
  refine q_lstore_n (pc := 141) (lv' := [(1, .long r97), (3, .int (3 : Int32)), (4, .int (8 : Int32)), (0, .ref (gad G 0))]) C dX8_digest_141 rfl (by decide) rfl ?_
  refine q_iinc (pc := 142) (k := 1) (v := (4 : Int32)) (lv' := [(3, .int (4 : Int32)), (1, .long r97), (4, .int (8 : Int32)), (0, .ref (gad G 0))]) C dX8_digest_142 rfl (by decide) (by decide) rfl ?_
  refine q_goto (pc := 145) (tgt := 126) C dX8_digest_145 (by decide) ?_
  refine q_iload_n (pc := 126) C dX8_digest_126 rfl 0 rfl ?_
  refine q_bipush (pc := 127) (v := (6 : Int32)) C dX8_digest_127 (by decide) ?_
  refine q_icmp_ge (pc := 129) (tgt := 148) C dX8_digest_129 (by decide) (fun c => absurd c (by decide)) (fun _ => ?_)
  refine q_lload_n (pc := 132) C dX8_digest_132 rfl 1 rfl ?_
  refine q_aload_n (pc := 133) C dX8_digest_133 rfl 3 rfl ?_
  refine q_iload_n (pc := 134) C dX8_digest_134 rfl 0 rfl ?_
  obtain ⟨r98, S45, h99, hm⟩ := ob_some hm
  refine q_callV (pc := 135) (k := 0) (As := [.int (4 : Int32)]) (rest := [.long r97]) (T := TX8) C (c_Te_wouldLose hi h99) (by decide) (ce_0 _ _ _) (ci := 6) rfl tw_860 tw_861 tw_862 tw_2 tw_863 (nA := 1) (by decide +kernel) rfl (by decide) (Nat.le_of_ble_eq_true rfl) rfl dX8_digest_135 ?_
  obtain ⟨r99, h100, hm⟩ := o1_some hm
  refine q_callS (pc := 138) (As := [.long r97, .int r98]) (rest := []) C (c_Te_mixed hi h100) tw_787 tw_788 tw_2 tw_789 (nA := 2) (by decide +kernel) rfl (by decide) (Nat.le_of_ble_eq_true rfl) rfl dX8_digest_138 ?_
  refine q_lstore_n (pc := 141) (lv' := [(1, .long r99), (3, .int (4 : Int32)), (4, .int (8 : Int32)), (0, .ref (gad G 0))]) C dX8_digest_141 rfl (by decide) rfl ?_
  refine q_iinc (pc := 142) (k := 1) (v := (5 : Int32)) (lv' := [(3, .int (5 : Int32)), (1, .long r99), (4, .int (8 : Int32)), (0, .ref (gad G 0))]) C dX8_digest_142 rfl (by decide) (by decide) rfl ?_
  refine q_goto (pc := 145) (tgt := 126) C dX8_digest_145 (by decide) ?_
  refine q_iload_n (pc := 126) C dX8_digest_126 rfl 0 rfl ?_
  refine q_bipush (pc := 127) (v := (6 : Int32)) C dX8_digest_127 (by decide) ?_
  refine q_icmp_ge (pc := 129) (tgt := 148) C dX8_digest_129 (by decide) (fun c => absurd c (by decide)) (fun _ => ?_)
  refine q_lload_n (pc := 132) C dX8_digest_132 rfl 1 rfl ?_
  refine q_aload_n (pc := 133) C dX8_digest_133 rfl 3 rfl ?_
  refine q_iload_n (pc := 134) C dX8_digest_134 rfl 0 rfl ?_
  obtain ⟨r100, S46, h101, hm⟩ := ob_some hm
  refine q_callV (pc := 135) (k := 0) (As := [.int (5 : Int32)]) (rest := [.long r99]) (T := TX8) C (c_Te_wouldLose hi h101) (by decide) (ce_0 _ _ _) (ci := 6) rfl tw_860 tw_861 tw_862 tw_2 tw_863 (nA := 1) (by decide +kernel) rfl (by decide) (Nat.le_of_ble_eq_true rfl) rfl dX8_digest_135 ?_
  obtain ⟨r101, h102, hm⟩ := o1_some hm
  refine q_callS (pc := 138) (As := [.long r99, .int r100]) (rest := []) C (c_Te_mixed hi h102) tw_787 tw_788 tw_2 tw_789 (nA := 2) (by decide +kernel) rfl (by decide) (Nat.le_of_ble_eq_true rfl) rfl dX8_digest_138 ?_
  refine q_lstore_n (pc := 141) (lv' := [(1, .long r101), (3, .int (5 : Int32)), (4, .int (8 : Int32)), (0, .ref (gad G 0))]) C dX8_digest_141 rfl (by decide) rfl ?_
  refine q_iinc (pc := 142) (k := 1) (v := (6 : Int32)) (lv' := [(3, .int (6 : Int32)), (1, .long r101), (4, .int (8 : Int32)), (0, .ref (gad G 0))]) C dX8_digest_142 rfl (by decide) (by decide) rfl ?_
  refine q_goto (pc := 145) (tgt := 126) C dX8_digest_145 (by decide) ?_
  refine q_iload_n (pc := 126) C dX8_digest_126 rfl 0 rfl ?_
  refine q_bipush (pc := 127) (v := (6 : Int32)) C dX8_digest_127 (by decide) ?_
  refine q_icmp_ge (pc := 129) (tgt := 148) C dX8_digest_129 (by decide) (fun _ => ?_) (fun c => absurd c (by decide))
  refine q_lload_n (pc := 148) C dX8_digest_148 rfl 1 rfl ?_
  cases hm
  exact q_lret (pc := 149) C dX8_digest_149
set_option maxRecDepth 100000 in
theorem c_St_cleanUp_Cop_12 {G : Gx} (hi : qinj (gad G)) {S : St}  {zr : Int32} {zS : St} (hm : m_St_cleanUp_Cop S  = some (zr, zS)) : QMet G yX7_cleanUp cX7_cleanUp 1 (some .int) 4 90 [.ref (gad G 12)] S (some (.int zr)) zS := by
  refine q_entry (by decide +kernel) rfl hi (Nat.le_of_ble_eq_true rfl) ?_
  intro X C
  refine q_lv (lv' := [(0, .ref (gad G 12))]) [0] rfl ?_
  unfold m_St_cleanUp_Cop at hm
  refine q_aload_n (pc := 0) C dX7_cleanUp_0 rfl 0 rfl ?_
  refine q_get (pc := 1) (T := TX0) (v := .int (S 12 5)) C (by decide) (ce_12 _ _ _) (ci := 0) rfl inlX0 (j := 5) (by decide) rfl tw_136 (Or.inl rfl) dX7_cleanUp_1 ?_
  refine q_if_eq (pc := 4) (tgt := 11) C dX7_cleanUp_4 (by decide) (fun c1 => ?_) (fun c1 => ?_)
  · replace hm := hm_t c1 hm
    refine q_aload_n (pc := 11) C dX7_cleanUp_11 rfl 0 rfl ?_
    obtain ⟨r1, S1, h1, hm⟩ := ob_some hm
    refine q_callU (pc := 12) (k := 12) (As := []) (rest := []) (T := TX0) (owner := "Tessera$Store") (x := ⟨"Tessera$Store", "collectNow", "()I"⟩) C (c_Cop_collectNow hi h1) (by decide) (ce_12 _ _ _) (ci := 0) rfl (Or.inr (Or.inl (by decide))) tw_879 tw_880 tw_239 tw_881 tw_26 tw_241 (nA := 0) (by decide +kernel) rfl (by decide) (Nat.le_of_ble_eq_true rfl) rfl dX7_cleanUp_12 ?_
    cases hm
    exact q_iret (pc := 15) C dX7_cleanUp_15
  · replace hm := hm_f c1 hm
    refine q_iconst (pc := 7) (v := (0 : Int32)) C dX7_cleanUp_7 (by decide) ?_
    refine q_goto (pc := 8) (tgt := 15) C dX7_cleanUp_8 (by decide) ?_
    cases hm
    exact q_iret (pc := 15) C dX7_cleanUp_15
set_option maxRecDepth 100000 in
theorem c_St_cleanUp_Nur_18 {G : Gx} (hi : qinj (gad G)) {S : St}  {zr : Int32} {zS : St} (hm : m_St_cleanUp_Nur S  = some (zr, zS)) : QMet G yX7_cleanUp cX7_cleanUp 1 (some .int) 4 86 [.ref (gad G 18)] S (some (.int zr)) zS := by
  refine q_entry (by decide +kernel) rfl hi (Nat.le_of_ble_eq_true rfl) ?_
  intro X C
  refine q_lv (lv' := [(0, .ref (gad G 18))]) [0] rfl ?_
  unfold m_St_cleanUp_Nur at hm
  refine q_aload_n (pc := 0) C dX7_cleanUp_0 rfl 0 rfl ?_
  refine q_get (pc := 1) (T := TX4) (v := .int (S 18 5)) C (by decide) (ce_18 _ _ _) (ci := 4) rfl inlX4 (j := 5) (by decide) rfl tw_136 (Or.inl rfl) dX7_cleanUp_1 ?_
  refine q_if_eq (pc := 4) (tgt := 11) C dX7_cleanUp_4 (by decide) (fun c1 => ?_) (fun c1 => ?_)
  · replace hm := hm_t c1 hm
    refine q_aload_n (pc := 11) C dX7_cleanUp_11 rfl 0 rfl ?_
    obtain ⟨r1, S1, h1, hm⟩ := ob_some hm
    refine q_callU (pc := 12) (k := 18) (As := []) (rest := []) (T := TX4) (owner := "Tessera$Store") (x := ⟨"Tessera$Store", "collectNow", "()I"⟩) C (c_Nur_collectNow hi h1) (by decide) (ce_18 _ _ _) (ci := 4) rfl (Or.inr (Or.inl (by decide))) tw_879 tw_880 tw_509 tw_884 tw_16 tw_511 (nA := 0) (by decide +kernel) rfl (by decide) (Nat.le_of_ble_eq_true rfl) rfl dX7_cleanUp_12 ?_
    cases hm
    exact q_iret (pc := 15) C dX7_cleanUp_15
  · replace hm := hm_f c1 hm
    refine q_iconst (pc := 7) (v := (0 : Int32)) C dX7_cleanUp_7 (by decide) ?_
    refine q_goto (pc := 8) (tgt := 15) C dX7_cleanUp_8 (by decide) ?_
    cases hm
    exact q_iret (pc := 15) C dX7_cleanUp_15
set_option maxRecDepth 100000 in
theorem c_St_cleanUp_Mar_31 {G : Gx} (hi : qinj (gad G)) {S : St}  {zr : Int32} {zS : St} (hm : m_St_cleanUp_Mar S  = some (zr, zS)) : QMet G yX7_cleanUp cX7_cleanUp 1 (some .int) 5 108 [.ref (gad G 31)] S (some (.int zr)) zS := by
  refine q_entry (by decide +kernel) rfl hi (Nat.le_of_ble_eq_true rfl) ?_
  intro X C
  refine q_lv (lv' := [(0, .ref (gad G 31))]) [0] rfl ?_
  unfold m_St_cleanUp_Mar at hm
  refine q_aload_n (pc := 0) C dX7_cleanUp_0 rfl 0 rfl ?_
  refine q_get (pc := 1) (T := TX3) (v := .int (S 31 6)) C (by decide) (ce_31 _ _ _) (ci := 3) rfl inlX3 (j := 6) (by decide) rfl tw_136 (Or.inl rfl) dX7_cleanUp_1 ?_
  refine q_if_eq (pc := 4) (tgt := 11) C dX7_cleanUp_4 (by decide) (fun c1 => ?_) (fun c1 => ?_)
  · replace hm := hm_t c1 hm
    refine q_aload_n (pc := 11) C dX7_cleanUp_11 rfl 0 rfl ?_
    obtain ⟨r1, S1, h1, hm⟩ := ob_some hm
    refine q_callU (pc := 12) (k := 31) (As := []) (rest := []) (T := TX3) (owner := "Tessera$Store") (x := ⟨"Tessera$Store", "collectNow", "()I"⟩) C (c_Mar_collectNow hi h1) (by decide) (ce_31 _ _ _) (ci := 3) rfl (Or.inr (Or.inl (by decide))) tw_879 tw_880 tw_472 tw_883 tw_19 tw_474 (nA := 0) (by decide +kernel) rfl (by decide) (Nat.le_of_ble_eq_true rfl) rfl dX7_cleanUp_12 ?_
    cases hm
    exact q_iret (pc := 15) C dX7_cleanUp_15
  · replace hm := hm_f c1 hm
    refine q_iconst (pc := 7) (v := (0 : Int32)) C dX7_cleanUp_7 (by decide) ?_
    refine q_goto (pc := 8) (tgt := 15) C dX7_cleanUp_8 (by decide) ?_
    cases hm
    exact q_iret (pc := 15) C dX7_cleanUp_15
set_option maxRecDepth 100000 in
theorem c_St_cleanUp_Cou_42 {G : Gx} (hi : qinj (gad G)) {S : St}  {zr : Int32} {zS : St} (hm : m_St_cleanUp_Cou S  = some (zr, zS)) : QMet G yX7_cleanUp cX7_cleanUp 1 (some .int) 5 110 [.ref (gad G 42)] S (some (.int zr)) zS := by
  refine q_entry (by decide +kernel) rfl hi (Nat.le_of_ble_eq_true rfl) ?_
  intro X C
  refine q_lv (lv' := [(0, .ref (gad G 42))]) [0] rfl ?_
  unfold m_St_cleanUp_Cou at hm
  refine q_aload_n (pc := 0) C dX7_cleanUp_0 rfl 0 rfl ?_
  refine q_get (pc := 1) (T := TX1) (v := .int (S 42 6)) C (by decide) (ce_42 _ _ _) (ci := 1) rfl inlX1 (j := 6) (by decide) rfl tw_136 (Or.inl rfl) dX7_cleanUp_1 ?_
  refine q_if_eq (pc := 4) (tgt := 11) C dX7_cleanUp_4 (by decide) (fun c1 => ?_) (fun c1 => ?_)
  · replace hm := hm_t c1 hm
    refine q_aload_n (pc := 11) C dX7_cleanUp_11 rfl 0 rfl ?_
    obtain ⟨r1, S1, h1, hm⟩ := ob_some hm
    refine q_callU (pc := 12) (k := 42) (As := []) (rest := []) (T := TX1) (owner := "Tessera$Store") (x := ⟨"Tessera$Store", "collectNow", "()I"⟩) C (c_Cou_collectNow hi h1) (by decide) (ce_42 _ _ _) (ci := 1) rfl (Or.inr (Or.inl (by decide))) tw_879 tw_880 tw_347 tw_882 tw_22 tw_349 (nA := 0) (by decide +kernel) rfl (by decide) (Nat.le_of_ble_eq_true rfl) rfl dX7_cleanUp_12 ?_
    cases hm
    exact q_iret (pc := 15) C dX7_cleanUp_15
  · replace hm := hm_f c1 hm
    refine q_iconst (pc := 7) (v := (0 : Int32)) C dX7_cleanUp_7 (by decide) ?_
    refine q_goto (pc := 8) (tgt := 15) C dX7_cleanUp_8 (by decide) ?_
    cases hm
    exact q_iret (pc := 15) C dX7_cleanUp_15
set_option maxRecDepth 100000 in
theorem c_Te_collect {G : Gx} (hi : qinj (gad G)) {S : St} {a1 : Int32} {zr : Int32} {zS : St} (hm : m_Te_collect S a1 = some (zr, zS)) : QMet G yX8_collect cX8_collect 4 (some .int) 6 130 [.ref (gad G 0), .int a1] S (some (.int zr)) zS := by
  refine q_entry (by decide +kernel) rfl hi (Nat.le_of_ble_eq_true rfl) ?_
  intro X C
  refine q_lv (lv' := [(0, .ref (gad G 0)), (1, .int a1)]) [0, 1] rfl ?_
  unfold m_Te_collect at hm
  refine q_aload_n (pc := 0) C dX8_collect_0 rfl 0 rfl ?_
  refine q_iload_n (pc := 1) C dX8_collect_1 rfl 1 rfl ?_
  obtain ⟨k1, h1, hm⟩ := o1_some hm
  refine q_callV (pc := 2) (k := 0) (As := [.int a1]) (rest := []) (T := TX8) C (c_Te_storeOf hi h1) (by decide) (ce_0 _ _ _) (ci := 6) rfl tw_716 tw_717 tw_718 tw_2 tw_719 (nA := 1) (by decide +kernel) rfl (by decide) (Nat.le_of_ble_eq_true rfl) rfl dX8_collect_2 ?_
  by_cases c1 : k1 = 12
  · replace hm := hm_t c1 hm
    subst c1
    refine q_astore_n (pc := 5) (lv' := [(2, .ref (gad G 12)), (0, .ref (gad G 0)), (1, .int a1)]) C dX8_collect_5 rfl (by decide) rfl ?_
    refine q_aload_n (pc := 6) C dX8_collect_6 rfl 0 rfl ?_
    obtain ⟨S1, h2, hm⟩ := o1_some hm
    refine q_callU (pc := 7) (k := 12) (As := []) (rest := []) (T := TX0) (owner := "Tessera$Store") (x := ⟨"Tessera$Store", "openPause", "()V"⟩) C (c_St_openPause_12 hi h2) (by decide) (ce_12 _ _ _) (ci := 0) rfl (Or.inl rfl) tw_209 tw_210 tw_212 tw_211 tw_62 tw_213 (nA := 0) (by decide +kernel) rfl (by decide) (Nat.le_of_ble_eq_true rfl) rfl dX8_collect_7 ?_
    refine q_aload_n (pc := 10) C dX8_collect_10 rfl 0 rfl ?_
    obtain ⟨r1, S2, h3, hm⟩ := ob_some hm
    refine q_callU (pc := 11) (k := 12) (As := []) (rest := []) (T := TX0) (owner := "Tessera$Store") (x := ⟨"Tessera$Store", "cleanUp", "()I"⟩) C (c_St_cleanUp_Cop_12 hi h3) (by decide) (ce_12 _ _ _) (ci := 0) rfl (Or.inl rfl) tw_874 tw_875 tw_877 tw_876 tw_62 tw_878 (nA := 0) (by decide +kernel) rfl (by decide) (Nat.le_of_ble_eq_true rfl) rfl dX8_collect_11 ?_
    refine q_istore_n (pc := 14) (lv' := [(3, .int r1), (2, .ref (gad G 12)), (0, .ref (gad G 0)), (1, .int a1)]) C dX8_collect_14 rfl (by decide) rfl ?_
    refine q_aload_n (pc := 15) C dX8_collect_15 rfl 1 rfl ?_
    obtain ⟨S3, h4, hm⟩ := o1_some hm
    refine q_callU (pc := 16) (k := 12) (As := []) (rest := []) (T := TX0) (owner := "Tessera$Store") (x := ⟨"Tessera$Store", "closePause", "()V"⟩) C (c_St_closePause_12 hi h4) (by decide) (ce_12 _ _ _) (ci := 0) rfl (Or.inl rfl) tw_637 tw_638 tw_640 tw_639 tw_62 tw_641 (nA := 0) (by decide +kernel) rfl (by decide) (Nat.le_of_ble_eq_true rfl) rfl dX8_collect_16 ?_
    refine q_iload_n (pc := 19) C dX8_collect_19 rfl 0 rfl ?_
    cases hm
    exact q_iret (pc := 20) C dX8_collect_20
  replace hm := hm_f c1 hm
  by_cases c2 : k1 = 18
  · replace hm := hm_t c2 hm
    subst c2
    refine q_astore_n (pc := 5) (lv' := [(2, .ref (gad G 18)), (0, .ref (gad G 0)), (1, .int a1)]) C dX8_collect_5 rfl (by decide) rfl ?_
    refine q_aload_n (pc := 6) C dX8_collect_6 rfl 0 rfl ?_
    obtain ⟨S4, h5, hm⟩ := o1_some hm
    refine q_callU (pc := 7) (k := 18) (As := []) (rest := []) (T := TX4) (owner := "Tessera$Store") (x := ⟨"Tessera$Store", "openPause", "()V"⟩) C (c_St_openPause_18 hi h5) (by decide) (ce_18 _ _ _) (ci := 4) rfl (Or.inl rfl) tw_209 tw_210 tw_212 tw_216 tw_62 tw_213 (nA := 0) (by decide +kernel) rfl (by decide) (Nat.le_of_ble_eq_true rfl) rfl dX8_collect_7 ?_
    refine q_aload_n (pc := 10) C dX8_collect_10 rfl 0 rfl ?_
    obtain ⟨r2, S5, h6, hm⟩ := ob_some hm
    refine q_callU (pc := 11) (k := 18) (As := []) (rest := []) (T := TX4) (owner := "Tessera$Store") (x := ⟨"Tessera$Store", "cleanUp", "()I"⟩) C (c_St_cleanUp_Nur_18 hi h6) (by decide) (ce_18 _ _ _) (ci := 4) rfl (Or.inl rfl) tw_874 tw_875 tw_877 tw_887 tw_62 tw_878 (nA := 0) (by decide +kernel) rfl (by decide) (Nat.le_of_ble_eq_true rfl) rfl dX8_collect_11 ?_
    refine q_istore_n (pc := 14) (lv' := [(3, .int r2), (2, .ref (gad G 18)), (0, .ref (gad G 0)), (1, .int a1)]) C dX8_collect_14 rfl (by decide) rfl ?_
    refine q_aload_n (pc := 15) C dX8_collect_15 rfl 1 rfl ?_
    obtain ⟨S6, h7, hm⟩ := o1_some hm
    refine q_callU (pc := 16) (k := 18) (As := []) (rest := []) (T := TX4) (owner := "Tessera$Store") (x := ⟨"Tessera$Store", "closePause", "()V"⟩) C (c_St_closePause_18 hi h7) (by decide) (ce_18 _ _ _) (ci := 4) rfl (Or.inl rfl) tw_637 tw_638 tw_640 tw_648 tw_62 tw_641 (nA := 0) (by decide +kernel) rfl (by decide) (Nat.le_of_ble_eq_true rfl) rfl dX8_collect_16 ?_
    refine q_iload_n (pc := 19) C dX8_collect_19 rfl 0 rfl ?_
    cases hm
    exact q_iret (pc := 20) C dX8_collect_20
  replace hm := hm_f c2 hm
  by_cases c3 : k1 = 31
  · replace hm := hm_t c3 hm
    subst c3
    refine q_astore_n (pc := 5) (lv' := [(2, .ref (gad G 31)), (0, .ref (gad G 0)), (1, .int a1)]) C dX8_collect_5 rfl (by decide) rfl ?_
    refine q_aload_n (pc := 6) C dX8_collect_6 rfl 0 rfl ?_
    obtain ⟨S7, h8, hm⟩ := o1_some hm
    refine q_callU (pc := 7) (k := 31) (As := []) (rest := []) (T := TX3) (owner := "Tessera$Store") (x := ⟨"Tessera$Store", "openPause", "()V"⟩) C (c_St_openPause_31 hi h8) (by decide) (ce_31 _ _ _) (ci := 3) rfl (Or.inl rfl) tw_209 tw_210 tw_212 tw_215 tw_62 tw_213 (nA := 0) (by decide +kernel) rfl (by decide) (Nat.le_of_ble_eq_true rfl) rfl dX8_collect_7 ?_
    refine q_aload_n (pc := 10) C dX8_collect_10 rfl 0 rfl ?_
    obtain ⟨r3, S8, h9, hm⟩ := ob_some hm
    refine q_callU (pc := 11) (k := 31) (As := []) (rest := []) (T := TX3) (owner := "Tessera$Store") (x := ⟨"Tessera$Store", "cleanUp", "()I"⟩) C (c_St_cleanUp_Mar_31 hi h9) (by decide) (ce_31 _ _ _) (ci := 3) rfl (Or.inl rfl) tw_874 tw_875 tw_877 tw_886 tw_62 tw_878 (nA := 0) (by decide +kernel) rfl (by decide) (Nat.le_of_ble_eq_true rfl) rfl dX8_collect_11 ?_
    refine q_istore_n (pc := 14) (lv' := [(3, .int r3), (2, .ref (gad G 31)), (0, .ref (gad G 0)), (1, .int a1)]) C dX8_collect_14 rfl (by decide) rfl ?_
    refine q_aload_n (pc := 15) C dX8_collect_15 rfl 1 rfl ?_
    obtain ⟨S9, h10, hm⟩ := o1_some hm
    refine q_callU (pc := 16) (k := 31) (As := []) (rest := []) (T := TX3) (owner := "Tessera$Store") (x := ⟨"Tessera$Store", "closePause", "()V"⟩) C (c_St_closePause_31 hi h10) (by decide) (ce_31 _ _ _) (ci := 3) rfl (Or.inl rfl) tw_637 tw_638 tw_640 tw_647 tw_62 tw_641 (nA := 0) (by decide +kernel) rfl (by decide) (Nat.le_of_ble_eq_true rfl) rfl dX8_collect_16 ?_
    refine q_iload_n (pc := 19) C dX8_collect_19 rfl 0 rfl ?_
    cases hm
    exact q_iret (pc := 20) C dX8_collect_20
  replace hm := hm_f c3 hm
  by_cases c4 : k1 = 42
  · replace hm := hm_t c4 hm
    subst c4
    refine q_astore_n (pc := 5) (lv' := [(2, .ref (gad G 42)), (0, .ref (gad G 0)), (1, .int a1)]) C dX8_collect_5 rfl (by decide) rfl ?_
    refine q_aload_n (pc := 6) C dX8_collect_6 rfl 0 rfl ?_
    obtain ⟨S10, h11, hm⟩ := o1_some hm
    refine q_callU (pc := 7) (k := 42) (As := []) (rest := []) (T := TX1) (owner := "Tessera$Store") (x := ⟨"Tessera$Store", "openPause", "()V"⟩) C (c_St_openPause_42 hi h11) (by decide) (ce_42 _ _ _) (ci := 1) rfl (Or.inl rfl) tw_209 tw_210 tw_212 tw_214 tw_62 tw_213 (nA := 0) (by decide +kernel) rfl (by decide) (Nat.le_of_ble_eq_true rfl) rfl dX8_collect_7 ?_
    refine q_aload_n (pc := 10) C dX8_collect_10 rfl 0 rfl ?_
    obtain ⟨r4, S11, h12, hm⟩ := ob_some hm
    refine q_callU (pc := 11) (k := 42) (As := []) (rest := []) (T := TX1) (owner := "Tessera$Store") (x := ⟨"Tessera$Store", "cleanUp", "()I"⟩) C (c_St_cleanUp_Cou_42 hi h12) (by decide) (ce_42 _ _ _) (ci := 1) rfl (Or.inl rfl) tw_874 tw_875 tw_877 tw_885 tw_62 tw_878 (nA := 0) (by decide +kernel) rfl (by decide) (Nat.le_of_ble_eq_true rfl) rfl dX8_collect_11 ?_
    refine q_istore_n (pc := 14) (lv' := [(3, .int r4), (2, .ref (gad G 42)), (0, .ref (gad G 0)), (1, .int a1)]) C dX8_collect_14 rfl (by decide) rfl ?_
    refine q_aload_n (pc := 15) C dX8_collect_15 rfl 1 rfl ?_
    obtain ⟨S12, h13, hm⟩ := o1_some hm
    refine q_callU (pc := 16) (k := 42) (As := []) (rest := []) (T := TX1) (owner := "Tessera$Store") (x := ⟨"Tessera$Store", "closePause", "()V"⟩) C (c_St_closePause_42 hi h13) (by decide) (ce_42 _ _ _) (ci := 1) rfl (Or.inl rfl) tw_637 tw_638 tw_640 tw_646 tw_62 tw_641 (nA := 0) (by decide +kernel) rfl (by decide) (Nat.le_of_ble_eq_true rfl) rfl dX8_collect_16 ?_
    refine q_iload_n (pc := 19) C dX8_collect_19 rfl 0 rfl ?_
    cases hm
    exact q_iret (pc := 20) C dX8_collect_20
  replace hm := hm_f c4 hm
  cases hm
set_option maxRecDepth 100000 in
theorem c_Law_below {G : Gx} (hi : qinj (gad G)) {S : St} {a0 : Int32} {a1 : Int32} {zr : Int32} (hm : m_Law_below S a0 a1 = some zr) : QMet G yL_below cL_below 2 (some .int) 0 0 [.int a0, .int a1] S (some (.int zr)) S := by
  refine q_entry (by decide +kernel) rfl hi (Nat.le_of_ble_eq_true rfl) ?_
  intro X C
  refine q_lv (lv' := [(0, .int a0), (1, .int a1)]) [0, 1] rfl ?_
  unfold m_Law_below at hm
  refine q_iload_n (pc := 0) C dL_below_0 rfl 0 rfl ?_
  refine q_ldc (pc := 1) (v := (2147483647 : Int32)) C tw_107 dL_below_1 ?_
  refine q_iand (pc := 3) C dL_below_3 ?_
  refine q_iload_n (pc := 4) C dL_below_4 rfl 1 rfl ?_
  obtain ⟨b1, hm⟩ := oi_some hm
  refine q_irem (pc := 5) C dL_below_5 b1 ?_
  cases hm
  exact q_iret (pc := 6) C dL_below_6
