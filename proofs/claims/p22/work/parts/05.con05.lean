set_option maxRecDepth 100000 in
theorem c_Te_make {G : Gx} (hi : qinj (gad G)) {S : St} {a1 : Int32} {a2 : Int32} {zr : Int32} {zS : St} (hm : m_Te_make S a1 a2 = some (zr, zS)) : QMet G yX8_make cX8_make 5 (some .int) 6 136 [.ref (gad G 0), .int a1, .int a2] S (some (.int zr)) zS := by
  refine q_entry (by decide +kernel) rfl hi (Nat.le_of_ble_eq_true rfl) ?_
  intro X C
  refine q_lv (lv' := [(0, .ref (gad G 0)), (1, .int a1), (2, .int a2)]) [0, 1, 2] rfl ?_
  unfold m_Te_make at hm
  refine q_iload_n (pc := 0) C dX8_make_0 rfl 1 rfl ?_
  refine q_if_lt (pc := 1) (tgt := 9) C dX8_make_1 (by decide) (fun c1 => ?_) (fun c1 => ?_)
  · replace hm := hm_t c1 hm
    cases hm
  · replace hm := hm_f c1 hm
    refine q_iload_n (pc := 4) C dX8_make_4 rfl 1 rfl ?_
    refine q_iconst (pc := 5) (v := (3 : Int32)) C dX8_make_5 (by decide) ?_
    refine q_icmp_le (pc := 6) (tgt := 19) C dX8_make_6 (by decide) (fun c2 => ?_) (fun c2 => ?_)
    · replace hm := hm_t c2 hm
      refine q_iload_n (pc := 19) C dX8_make_19 rfl 2 rfl ?_
      obtain ⟨u1, h1, hm⟩ := o1_some hm
      refine q_callS (pc := 20) (As := [.int a2]) (rest := []) C (c_Te_checkRoot hi h1) tw_200 tw_201 tw_2 tw_202 (nA := 1) (by decide +kernel) rfl (by decide) (Nat.le_of_ble_eq_true rfl) rfl dX8_make_20 ?_
      refine q_aload_n (pc := 23) C dX8_make_23 rfl 0 rfl ?_
      refine q_get (pc := 24) (T := TX8) (v := .ref (gad G 1)) C (by decide) (ce_0 _ _ _) (ci := 6) rfl inlX8 (j := 0) (by decide) rfl tw_27 (Or.inl rfl) dX8_make_24 ?_
      refine q_get (pc := 27) (T := TX2) (v := .int (S 1 6)) C (by decide) (ce_1 _ _ _) (ci := 2) rfl inlX2 (j := 6) (by decide) rfl tw_192 (Or.inl rfl) dX8_make_27 ?_
      refine q_bipush (pc := 30) (v := (80 : Int32)) C dX8_make_30 (by decide) ?_
      refine q_icmp_lt (pc := 32) (tgt := 45) C dX8_make_32 (by decide) (fun c3 => ?_) (fun c3 => ?_)
      · replace hm := hm_t c3 hm
        refine q_aload_n (pc := 45) C dX8_make_45 rfl 0 rfl ?_
        obtain ⟨S1, h2, hm⟩ := o1_some hm
        refine q_callV (pc := 46) (k := 0) (As := []) (rest := []) (T := TX8) C (c_Te_openPauses hi h2) (by decide) (ce_0 _ _ _) (ci := 6) rfl tw_205 tw_206 tw_207 tw_2 tw_208 (nA := 0) (by decide +kernel) rfl (by decide) (Nat.le_of_ble_eq_true rfl) rfl dX8_make_46 ?_
        refine q_aload_n (pc := 49) C dX8_make_49 rfl 0 rfl ?_
        refine q_get (pc := 50) (T := TX8) (v := .ref (gad G 1)) C (by decide) (ce_0 _ _ _) (ci := 6) rfl inlX8 (j := 0) (by decide) rfl tw_27 (Or.inl rfl) dX8_make_50 ?_
        refine q_iload_n (pc := 53) C dX8_make_53 rfl 1 rfl ?_
        obtain ⟨r1, S2, h3, hm⟩ := ob_some hm
        refine q_callV (pc := 54) (k := 1) (As := [.int a1]) (rest := []) (T := TX2) C (c_Gr_addThing hi h3) (by decide) (ce_1 _ _ _) (ci := 2) rfl tw_217 tw_218 tw_219 tw_13 tw_220 (nA := 1) (by decide +kernel) rfl (by decide) (Nat.le_of_ble_eq_true rfl) rfl dX8_make_54 ?_
        refine q_istore_n (pc := 57) (lv' := [(3, .int r1), (0, .ref (gad G 0)), (1, .int a1), (2, .int a2)]) C dX8_make_57 rfl (by decide) rfl ?_
        refine q_iconst (pc := 58) (v := (0 : Int32)) C dX8_make_58 (by decide) ?_
        refine q_istore (pc := 59) (lv' := [(4, .int (0 : Int32)), (3, .int r1), (0, .ref (gad G 0)), (1, .int a1), (2, .int a2)]) C dX8_make_59 (by decide) rfl ?_
        refine q_iload (pc := 61) C dX8_make_61 0 rfl ?_
        refine q_iconst (pc := 63) (v := (4 : Int32)) C dX8_make_63 (by decide) ?_
        refine q_icmp_ge (pc := 64) (tgt := 97) C dX8_make_64 (by decide) (fun c => absurd c (by decide)) (fun _ => ?_)
        refine q_aload_n (pc := 67) C dX8_make_67 rfl 2 rfl ?_
        refine q_get (pc := 68) (T := TX8) (v := .ref (gad G 58)) C (by decide) (ce_0 _ _ _) (ci := 6) rfl inlX8 (j := 4) (by decide) rfl tw_31 (Or.inl rfl) dX8_make_68 ?_
        refine q_iload (pc := 71) C dX8_make_71 0 rfl ?_
        refine q_aald (pc := 73) (k := 12) (n := 0) C (by decide) (by decide) rfl dX8_make_73 ?_
        refine q_get (pc := 74) (T := TX0) (v := .int (S2 12 5)) C (by decide) (ce_12 _ _ _) (ci := 0) rfl inlX0 (j := 5) (by decide) rfl tw_199 (Or.inl rfl) dX8_make_74 ?_
        refine q_if_ne (pc := 77) (tgt := 91) C dX8_make_77 (by decide) (fun c4 => ?_) (fun c4 => ?_)
        · replace hm := hm_f c4 hm
          refine q_iinc (pc := 91) (k := 0) (v := (1 : Int32)) (lv' := [(4, .int (1 : Int32)), (3, .int r1), (0, .ref (gad G 0)), (1, .int a1), (2, .int a2)]) C dX8_make_91 rfl (by decide) (by decide) rfl ?_
          refine q_goto (pc := 94) (tgt := 61) C dX8_make_94 (by decide) ?_
          refine q_iload (pc := 61) C dX8_make_61 0 rfl ?_
          refine q_iconst (pc := 63) (v := (4 : Int32)) C dX8_make_63 (by decide) ?_
          refine q_icmp_ge (pc := 64) (tgt := 97) C dX8_make_64 (by decide) (fun c => absurd c (by decide)) (fun _ => ?_)
          refine q_aload_n (pc := 67) C dX8_make_67 rfl 2 rfl ?_
          refine q_get (pc := 68) (T := TX8) (v := .ref (gad G 58)) C (by decide) (ce_0 _ _ _) (ci := 6) rfl inlX8 (j := 4) (by decide) rfl tw_31 (Or.inl rfl) dX8_make_68 ?_
          refine q_iload (pc := 71) C dX8_make_71 0 rfl ?_
          refine q_aald (pc := 73) (k := 18) (n := 1) C (by decide) (by decide) rfl dX8_make_73 ?_
          refine q_get (pc := 74) (T := TX4) (v := .int (S2 18 5)) C (by decide) (ce_18 _ _ _) (ci := 4) rfl inlX4 (j := 5) (by decide) rfl tw_199 (Or.inl rfl) dX8_make_74 ?_
          refine q_if_ne (pc := 77) (tgt := 91) C dX8_make_77 (by decide) (fun c5 => ?_) (fun c5 => ?_)
          · replace hm := hm_f c5 hm
            refine q_iinc (pc := 91) (k := 0) (v := (2 : Int32)) (lv' := [(4, .int (2 : Int32)), (3, .int r1), (0, .ref (gad G 0)), (1, .int a1), (2, .int a2)]) C dX8_make_91 rfl (by decide) (by decide) rfl ?_
            refine q_goto (pc := 94) (tgt := 61) C dX8_make_94 (by decide) ?_
            refine q_iload (pc := 61) C dX8_make_61 0 rfl ?_
            refine q_iconst (pc := 63) (v := (4 : Int32)) C dX8_make_63 (by decide) ?_
            refine q_icmp_ge (pc := 64) (tgt := 97) C dX8_make_64 (by decide) (fun c => absurd c (by decide)) (fun _ => ?_)
            refine q_aload_n (pc := 67) C dX8_make_67 rfl 2 rfl ?_
            refine q_get (pc := 68) (T := TX8) (v := .ref (gad G 58)) C (by decide) (ce_0 _ _ _) (ci := 6) rfl inlX8 (j := 4) (by decide) rfl tw_31 (Or.inl rfl) dX8_make_68 ?_
            refine q_iload (pc := 71) C dX8_make_71 0 rfl ?_
            refine q_aald (pc := 73) (k := 31) (n := 2) C (by decide) (by decide) rfl dX8_make_73 ?_
            refine q_get (pc := 74) (T := TX3) (v := .int (S2 31 6)) C (by decide) (ce_31 _ _ _) (ci := 3) rfl inlX3 (j := 6) (by decide) rfl tw_199 (Or.inl rfl) dX8_make_74 ?_
            refine q_if_ne (pc := 77) (tgt := 91) C dX8_make_77 (by decide) (fun c6 => ?_) (fun c6 => ?_)
            · replace hm := hm_f c6 hm
              refine q_iinc (pc := 91) (k := 0) (v := (3 : Int32)) (lv' := [(4, .int (3 : Int32)), (3, .int r1), (0, .ref (gad G 0)), (1, .int a1), (2, .int a2)]) C dX8_make_91 rfl (by decide) (by decide) rfl ?_
              refine q_goto (pc := 94) (tgt := 61) C dX8_make_94 (by decide) ?_
              refine q_iload (pc := 61) C dX8_make_61 0 rfl ?_
              refine q_iconst (pc := 63) (v := (4 : Int32)) C dX8_make_63 (by decide) ?_
              refine q_icmp_ge (pc := 64) (tgt := 97) C dX8_make_64 (by decide) (fun c => absurd c (by decide)) (fun _ => ?_)
              refine q_aload_n (pc := 67) C dX8_make_67 rfl 2 rfl ?_
              refine q_get (pc := 68) (T := TX8) (v := .ref (gad G 58)) C (by decide) (ce_0 _ _ _) (ci := 6) rfl inlX8 (j := 4) (by decide) rfl tw_31 (Or.inl rfl) dX8_make_68 ?_
              refine q_iload (pc := 71) C dX8_make_71 0 rfl ?_
              refine q_aald (pc := 73) (k := 42) (n := 3) C (by decide) (by decide) rfl dX8_make_73 ?_
              refine q_get (pc := 74) (T := TX1) (v := .int (S2 42 6)) C (by decide) (ce_42 _ _ _) (ci := 1) rfl inlX1 (j := 6) (by decide) rfl tw_199 (Or.inl rfl) dX8_make_74 ?_
              refine q_if_ne (pc := 77) (tgt := 91) C dX8_make_77 (by decide) (fun c7 => ?_) (fun c7 => ?_)
              · replace hm := hm_f c7 hm
                refine q_iinc (pc := 91) (k := 0) (v := (4 : Int32)) (lv' := [(4, .int (4 : Int32)), (3, .int r1), (0, .ref (gad G 0)), (1, .int a1), (2, .int a2)]) C dX8_make_91 rfl (by decide) (by decide) rfl ?_
                refine q_goto (pc := 94) (tgt := 61) C dX8_make_94 (by decide) ?_
                refine q_iload (pc := 61) C dX8_make_61 0 rfl ?_
                refine q_iconst (pc := 63) (v := (4 : Int32)) C dX8_make_63 (by decide) ?_
                refine q_icmp_ge (pc := 64) (tgt := 97) C dX8_make_64 (by decide) (fun _ => ?_) (fun c => absurd c (by decide))
                refine q_aload_n (pc := 97) C dX8_make_97 rfl 2 rfl ?_
                refine q_iload_n (pc := 98) C dX8_make_98 rfl 4 rfl ?_
                refine q_iload_n (pc := 99) C dX8_make_99 rfl 1 rfl ?_
                obtain ⟨r2, S3, h4, hm⟩ := ob_some hm
                refine q_callV (pc := 100) (k := 0) (As := [.int a2, .int r1]) (rest := []) (T := TX8) C (c_Te_nameByRoot hi h4) (by decide) (ce_0 _ _ _) (ci := 6) rfl tw_585 tw_586 tw_587 tw_2 tw_588 (nA := 2) (by decide +kernel) rfl (by decide) (Nat.le_of_ble_eq_true rfl) rfl dX8_make_100 ?_
                refine q_pop (pc := 103) C dX8_make_103 rfl ?_
                refine q_aload_n (pc := 104) C dX8_make_104 rfl 2 rfl ?_
                obtain ⟨S4, h5, hm⟩ := o1_some hm
                refine q_callV (pc := 105) (k := 0) (As := []) (rest := []) (T := TX8) C (c_Te_closePauses hi h5) (by decide) (ce_0 _ _ _) (ci := 6) rfl tw_633 tw_634 tw_635 tw_2 tw_636 (nA := 0) (by decide +kernel) rfl (by decide) (Nat.le_of_ble_eq_true rfl) rfl dX8_make_105 ?_
                refine q_iload_n (pc := 108) C dX8_make_108 rfl 1 rfl ?_
                cases hm
                exact q_iret (pc := 109) C dX8_make_109
              · replace hm := hm_t c7 hm
                refine q_aload_n (pc := 80) C dX8_make_80 rfl 2 rfl ?_
                refine q_get (pc := 81) (T := TX8) (v := .ref (gad G 58)) C (by decide) (ce_0 _ _ _) (ci := 6) rfl inlX8 (j := 4) (by decide) rfl tw_31 (Or.inl rfl) dX8_make_81 ?_
                refine q_iload (pc := 84) C dX8_make_84 0 rfl ?_
                refine q_aald (pc := 86) (k := 42) (n := 3) C (by decide) (by decide) rfl dX8_make_86 ?_
                refine q_iload_n (pc := 87) C dX8_make_87 rfl 1 rfl ?_
                obtain ⟨S5, h6, hm⟩ := o1_some hm
                refine q_callU (pc := 88) (k := 42) (As := [.int r1]) (rest := []) (T := TX1) (owner := "Tessera$Store") (x := ⟨"Tessera$Store", "placeNew", "(I)V"⟩) C (c_Cou_placeNew hi h6) (by decide) (ce_42 _ _ _) (ci := 1) rfl (Or.inr (Or.inl (by decide))) tw_221 tw_222 tw_309 tw_308 tw_22 tw_310 (nA := 1) (by decide +kernel) rfl (by decide) (Nat.le_of_ble_eq_true rfl) rfl dX8_make_88 ?_
                refine q_iinc (pc := 91) (k := 0) (v := (4 : Int32)) (lv' := [(4, .int (4 : Int32)), (3, .int r1), (0, .ref (gad G 0)), (1, .int a1), (2, .int a2)]) C dX8_make_91 rfl (by decide) (by decide) rfl ?_
                refine q_goto (pc := 94) (tgt := 61) C dX8_make_94 (by decide) ?_
                refine q_iload (pc := 61) C dX8_make_61 0 rfl ?_
                refine q_iconst (pc := 63) (v := (4 : Int32)) C dX8_make_63 (by decide) ?_
                refine q_icmp_ge (pc := 64) (tgt := 97) C dX8_make_64 (by decide) (fun _ => ?_) (fun c => absurd c (by decide))
                refine q_aload_n (pc := 97) C dX8_make_97 rfl 2 rfl ?_
                refine q_iload_n (pc := 98) C dX8_make_98 rfl 4 rfl ?_
                refine q_iload_n (pc := 99) C dX8_make_99 rfl 1 rfl ?_
                obtain ⟨r3, S6, h7, hm⟩ := ob_some hm
                refine q_callV (pc := 100) (k := 0) (As := [.int a2, .int r1]) (rest := []) (T := TX8) C (c_Te_nameByRoot hi h7) (by decide) (ce_0 _ _ _) (ci := 6) rfl tw_585 tw_586 tw_587 tw_2 tw_588 (nA := 2) (by decide +kernel) rfl (by decide) (Nat.le_of_ble_eq_true rfl) rfl dX8_make_100 ?_
                refine q_pop (pc := 103) C dX8_make_103 rfl ?_
                refine q_aload_n (pc := 104) C dX8_make_104 rfl 2 rfl ?_
                obtain ⟨S7, h8, hm⟩ := o1_some hm
                refine q_callV (pc := 105) (k := 0) (As := []) (rest := []) (T := TX8) C (c_Te_closePauses hi h8) (by decide) (ce_0 _ _ _) (ci := 6) rfl tw_633 tw_634 tw_635 tw_2 tw_636 (nA := 0) (by decide +kernel) rfl (by decide) (Nat.le_of_ble_eq_true rfl) rfl dX8_make_105 ?_
                refine q_iload_n (pc := 108) C dX8_make_108 rfl 1 rfl ?_
                cases hm
                exact q_iret (pc := 109) C dX8_make_109
            · replace hm := hm_t c6 hm
              refine q_aload_n (pc := 80) C dX8_make_80 rfl 2 rfl ?_
              refine q_get (pc := 81) (T := TX8) (v := .ref (gad G 58)) C (by decide) (ce_0 _ _ _) (ci := 6) rfl inlX8 (j := 4) (by decide) rfl tw_31 (Or.inl rfl) dX8_make_81 ?_
              refine q_iload (pc := 84) C dX8_make_84 0 rfl ?_
              refine q_aald (pc := 86) (k := 31) (n := 2) C (by decide) (by decide) rfl dX8_make_86 ?_
              refine q_iload_n (pc := 87) C dX8_make_87 rfl 1 rfl ?_
              obtain ⟨S8, h9, hm⟩ := o1_some hm
              refine q_callU (pc := 88) (k := 31) (As := [.int r1]) (rest := []) (T := TX3) (owner := "Tessera$Store") (x := ⟨"Tessera$Store", "placeNew", "(I)V"⟩) C (c_Mar_placeNew hi h9) (by decide) (ce_31 _ _ _) (ci := 3) rfl (Or.inr (Or.inl (by decide))) tw_221 tw_222 tw_403 tw_402 tw_19 tw_404 (nA := 1) (by decide +kernel) rfl (by decide) (Nat.le_of_ble_eq_true rfl) rfl dX8_make_88 ?_
              refine q_iinc (pc := 91) (k := 0) (v := (3 : Int32)) (lv' := [(4, .int (3 : Int32)), (3, .int r1), (0, .ref (gad G 0)), (1, .int a1), (2, .int a2)]) C dX8_make_91 rfl (by decide) (by decide) rfl ?_
              refine q_goto (pc := 94) (tgt := 61) C dX8_make_94 (by decide) ?_
              refine q_iload (pc := 61) C dX8_make_61 0 rfl ?_
              refine q_iconst (pc := 63) (v := (4 : Int32)) C dX8_make_63 (by decide) ?_
              refine q_icmp_ge (pc := 64) (tgt := 97) C dX8_make_64 (by decide) (fun c => absurd c (by decide)) (fun _ => ?_)
              refine q_aload_n (pc := 67) C dX8_make_67 rfl 2 rfl ?_
              refine q_get (pc := 68) (T := TX8) (v := .ref (gad G 58)) C (by decide) (ce_0 _ _ _) (ci := 6) rfl inlX8 (j := 4) (by decide) rfl tw_31 (Or.inl rfl) dX8_make_68 ?_
              refine q_iload (pc := 71) C dX8_make_71 0 rfl ?_
              refine q_aald (pc := 73) (k := 42) (n := 3) C (by decide) (by decide) rfl dX8_make_73 ?_
              refine q_get (pc := 74) (T := TX1) (v := .int (S8 42 6)) C (by decide) (ce_42 _ _ _) (ci := 1) rfl inlX1 (j := 6) (by decide) rfl tw_199 (Or.inl rfl) dX8_make_74 ?_
              refine q_if_ne (pc := 77) (tgt := 91) C dX8_make_77 (by decide) (fun c8 => ?_) (fun c8 => ?_)
              · replace hm := hm_f c8 hm
                refine q_iinc (pc := 91) (k := 0) (v := (4 : Int32)) (lv' := [(4, .int (4 : Int32)), (3, .int r1), (0, .ref (gad G 0)), (1, .int a1), (2, .int a2)]) C dX8_make_91 rfl (by decide) (by decide) rfl ?_
                refine q_goto (pc := 94) (tgt := 61) C dX8_make_94 (by decide) ?_
                refine q_iload (pc := 61) C dX8_make_61 0 rfl ?_
                refine q_iconst (pc := 63) (v := (4 : Int32)) C dX8_make_63 (by decide) ?_
                refine q_icmp_ge (pc := 64) (tgt := 97) C dX8_make_64 (by decide) (fun _ => ?_) (fun c => absurd c (by decide))
                refine q_aload_n (pc := 97) C dX8_make_97 rfl 2 rfl ?_
                refine q_iload_n (pc := 98) C dX8_make_98 rfl 4 rfl ?_
                refine q_iload_n (pc := 99) C dX8_make_99 rfl 1 rfl ?_
                obtain ⟨r4, S9, h10, hm⟩ := ob_some hm
                refine q_callV (pc := 100) (k := 0) (As := [.int a2, .int r1]) (rest := []) (T := TX8) C (c_Te_nameByRoot hi h10) (by decide) (ce_0 _ _ _) (ci := 6) rfl tw_585 tw_586 tw_587 tw_2 tw_588 (nA := 2) (by decide +kernel) rfl (by decide) (Nat.le_of_ble_eq_true rfl) rfl dX8_make_100 ?_
                refine q_pop (pc := 103) C dX8_make_103 rfl ?_
                refine q_aload_n (pc := 104) C dX8_make_104 rfl 2 rfl ?_
                obtain ⟨S10, h11, hm⟩ := o1_some hm
                refine q_callV (pc := 105) (k := 0) (As := []) (rest := []) (T := TX8) C (c_Te_closePauses hi h11) (by decide) (ce_0 _ _ _) (ci := 6) rfl tw_633 tw_634 tw_635 tw_2 tw_636 (nA := 0) (by decide +kernel) rfl (by decide) (Nat.le_of_ble_eq_true rfl) rfl dX8_make_105 ?_
                refine q_iload_n (pc := 108) C dX8_make_108 rfl 1 rfl ?_
                cases hm
                exact q_iret (pc := 109) C dX8_make_109
              · replace hm := hm_t c8 hm
                refine q_aload_n (pc := 80) C dX8_make_80 rfl 2 rfl ?_
                refine q_get (pc := 81) (T := TX8) (v := .ref (gad G 58)) C (by decide) (ce_0 _ _ _) (ci := 6) rfl inlX8 (j := 4) (by decide) rfl tw_31 (Or.inl rfl) dX8_make_81 ?_
                refine q_iload (pc := 84) C dX8_make_84 0 rfl ?_
                refine q_aald (pc := 86) (k := 42) (n := 3) C (by decide) (by decide) rfl dX8_make_86 ?_
                refine q_iload_n (pc := 87) C dX8_make_87 rfl 1 rfl ?_
                obtain ⟨S11, h12, hm⟩ := o1_some hm
                refine q_callU (pc := 88) (k := 42) (As := [.int r1]) (rest := []) (T := TX1) (owner := "Tessera$Store") (x := ⟨"Tessera$Store", "placeNew", "(I)V"⟩) C (c_Cou_placeNew hi h12) (by decide) (ce_42 _ _ _) (ci := 1) rfl (Or.inr (Or.inl (by decide))) tw_221 tw_222 tw_309 tw_308 tw_22 tw_310 (nA := 1) (by decide +kernel) rfl (by decide) (Nat.le_of_ble_eq_true rfl) rfl dX8_make_88 ?_
                refine q_iinc (pc := 91) (k := 0) (v := (4 : Int32)) (lv' := [(4, .int (4 : Int32)), (3, .int r1), (0, .ref (gad G 0)), (1, .int a1), (2, .int a2)]) C dX8_make_91 rfl (by decide) (by decide) rfl ?_
                refine q_goto (pc := 94) (tgt := 61) C dX8_make_94 (by decide) ?_
                refine q_iload (pc := 61) C dX8_make_61 0 rfl ?_
                refine q_iconst (pc := 63) (v := (4 : Int32)) C dX8_make_63 (by decide) ?_
                refine q_icmp_ge (pc := 64) (tgt := 97) C dX8_make_64 (by decide) (fun _ => ?_) (fun c => absurd c (by decide))
                refine q_aload_n (pc := 97) C dX8_make_97 rfl 2 rfl ?_
                refine q_iload_n (pc := 98) C dX8_make_98 rfl 4 rfl ?_
                refine q_iload_n (pc := 99) C dX8_make_99 rfl 1 rfl ?_
                obtain ⟨r5, S12, h13, hm⟩ := ob_some hm
                refine q_callV (pc := 100) (k := 0) (As := [.int a2, .int r1]) (rest := []) (T := TX8) C (c_Te_nameByRoot hi h13) (by decide) (ce_0 _ _ _) (ci := 6) rfl tw_585 tw_586 tw_587 tw_2 tw_588 (nA := 2) (by decide +kernel) rfl (by decide) (Nat.le_of_ble_eq_true rfl) rfl dX8_make_100 ?_
                refine q_pop (pc := 103) C dX8_make_103 rfl ?_
                refine q_aload_n (pc := 104) C dX8_make_104 rfl 2 rfl ?_
                obtain ⟨S13, h14, hm⟩ := o1_some hm
                refine q_callV (pc := 105) (k := 0) (As := []) (rest := []) (T := TX8) C (c_Te_closePauses hi h14) (by decide) (ce_0 _ _ _) (ci := 6) rfl tw_633 tw_634 tw_635 tw_2 tw_636 (nA := 0) (by decide +kernel) rfl (by decide) (Nat.le_of_ble_eq_true rfl) rfl dX8_make_105 ?_
                refine q_iload_n (pc := 108) C dX8_make_108 rfl 1 rfl ?_
                cases hm
                exact q_iret (pc := 109) C dX8_make_109
          · replace hm := hm_t c5 hm
            refine q_aload_n (pc := 80) C dX8_make_80 rfl 2 rfl ?_
            refine q_get (pc := 81) (T := TX8) (v := .ref (gad G 58)) C (by decide) (ce_0 _ _ _) (ci := 6) rfl inlX8 (j := 4) (by decide) rfl tw_31 (Or.inl rfl) dX8_make_81 ?_
            refine q_iload (pc := 84) C dX8_make_84 0 rfl ?_
            refine q_aald (pc := 86) (k := 18) (n := 1) C (by decide) (by decide) rfl dX8_make_86 ?_
            refine q_iload_n (pc := 87) C dX8_make_87 rfl 1 rfl ?_
            obtain ⟨S14, h15, hm⟩ := o1_some hm
            refine q_callU (pc := 88) (k := 18) (As := [.int r1]) (rest := []) (T := TX4) (owner := "Tessera$Store") (x := ⟨"Tessera$Store", "placeNew", "(I)V"⟩) C (c_Nur_placeNew hi h15) (by decide) (ce_18 _ _ _) (ci := 4) rfl (Or.inr (Or.inl (by decide))) tw_221 tw_222 tw_482 tw_481 tw_16 tw_483 (nA := 1) (by decide +kernel) rfl (by decide) (Nat.le_of_ble_eq_true rfl) rfl dX8_make_88 ?_
            refine q_iinc (pc := 91) (k := 0) (v := (2 : Int32)) (lv' := [(4, .int (2 : Int32)), (3, .int r1), (0, .ref (gad G 0)), (1, .int a1), (2, .int a2)]) C dX8_make_91 rfl (by decide) (by decide) rfl ?_
            refine q_goto (pc := 94) (tgt := 61) C dX8_make_94 (by decide) ?_
            refine q_iload (pc := 61) C dX8_make_61 0 rfl ?_
            refine q_iconst (pc := 63) (v := (4 : Int32)) C dX8_make_63 (by decide) ?_
            refine q_icmp_ge (pc := 64) (tgt := 97) C dX8_make_64 (by decide) (fun c => absurd c (by decide)) (fun _ => ?_)
            refine q_aload_n (pc := 67) C dX8_make_67 rfl 2 rfl ?_
            refine q_get (pc := 68) (T := TX8) (v := .ref (gad G 58)) C (by decide) (ce_0 _ _ _) (ci := 6) rfl inlX8 (j := 4) (by decide) rfl tw_31 (Or.inl rfl) dX8_make_68 ?_
            refine q_iload (pc := 71) C dX8_make_71 0 rfl ?_
            refine q_aald (pc := 73) (k := 31) (n := 2) C (by decide) (by decide) rfl dX8_make_73 ?_
            refine q_get (pc := 74) (T := TX3) (v := .int (S14 31 6)) C (by decide) (ce_31 _ _ _) (ci := 3) rfl inlX3 (j := 6) (by decide) rfl tw_199 (Or.inl rfl) dX8_make_74 ?_
            refine q_if_ne (pc := 77) (tgt := 91) C dX8_make_77 (by decide) (fun c9 => ?_) (fun c9 => ?_)
            · replace hm := hm_f c9 hm
              refine q_iinc (pc := 91) (k := 0) (v := (3 : Int32)) (lv' := [(4, .int (3 : Int32)), (3, .int r1), (0, .ref (gad G 0)), (1, .int a1), (2, .int a2)]) C dX8_make_91 rfl (by decide) (by decide) rfl ?_
              refine q_goto (pc := 94) (tgt := 61) C dX8_make_94 (by decide) ?_
              refine q_iload (pc := 61) C dX8_make_61 0 rfl ?_
              refine q_iconst (pc := 63) (v := (4 : Int32)) C dX8_make_63 (by decide) ?_
              refine q_icmp_ge (pc := 64) (tgt := 97) C dX8_make_64 (by decide) (fun c => absurd c (by decide)) (fun _ => ?_)
              refine q_aload_n (pc := 67) C dX8_make_67 rfl 2 rfl ?_
              refine q_get (pc := 68) (T := TX8) (v := .ref (gad G 58)) C (by decide) (ce_0 _ _ _) (ci := 6) rfl inlX8 (j := 4) (by decide) rfl tw_31 (Or.inl rfl) dX8_make_68 ?_
              refine q_iload (pc := 71) C dX8_make_71 0 rfl ?_
              refine q_aald (pc := 73) (k := 42) (n := 3) C (by decide) (by decide) rfl dX8_make_73 ?_
              refine q_get (pc := 74) (T := TX1) (v := .int (S14 42 6)) C (by decide) (ce_42 _ _ _) (ci := 1) rfl inlX1 (j := 6) (by decide) rfl tw_199 (Or.inl rfl) dX8_make_74 ?_
              refine q_if_ne (pc := 77) (tgt := 91) C dX8_make_77 (by decide) (fun c10 => ?_) (fun c10 => ?_)
              · replace hm := hm_f c10 hm
                refine q_iinc (pc := 91) (k := 0) (v := (4 : Int32)) (lv' := [(4, .int (4 : Int32)), (3, .int r1), (0, .ref (gad G 0)), (1, .int a1), (2, .int a2)]) C dX8_make_91 rfl (by decide) (by decide) rfl ?_
                refine q_goto (pc := 94) (tgt := 61) C dX8_make_94 (by decide) ?_
                refine q_iload (pc := 61) C dX8_make_61 0 rfl ?_
                refine q_iconst (pc := 63) (v := (4 : Int32)) C dX8_make_63 (by decide) ?_
                refine q_icmp_ge (pc := 64) (tgt := 97) C dX8_make_64 (by decide) (fun _ => ?_) (fun c => absurd c (by decide))
                refine q_aload_n (pc := 97) C dX8_make_97 rfl 2 rfl ?_
                refine q_iload_n (pc := 98) C dX8_make_98 rfl 4 rfl ?_
                refine q_iload_n (pc := 99) C dX8_make_99 rfl 1 rfl ?_
                obtain ⟨r6, S15, h16, hm⟩ := ob_some hm
                refine q_callV (pc := 100) (k := 0) (As := [.int a2, .int r1]) (rest := []) (T := TX8) C (c_Te_nameByRoot hi h16) (by decide) (ce_0 _ _ _) (ci := 6) rfl tw_585 tw_586 tw_587 tw_2 tw_588 (nA := 2) (by decide +kernel) rfl (by decide) (Nat.le_of_ble_eq_true rfl) rfl dX8_make_100 ?_
                refine q_pop (pc := 103) C dX8_make_103 rfl ?_
                refine q_aload_n (pc := 104) C dX8_make_104 rfl 2 rfl ?_
                obtain ⟨S16, h17, hm⟩ := o1_some hm
                refine q_callV (pc := 105) (k := 0) (As := []) (rest := []) (T := TX8) C (c_Te_closePauses hi h17) (by decide) (ce_0 _ _ _) (ci := 6) rfl tw_633 tw_634 tw_635 tw_2 tw_636 (nA := 0) (by decide +kernel) rfl (by decide) (Nat.le_of_ble_eq_true rfl) rfl dX8_make_105 ?_
                refine q_iload_n (pc := 108) C dX8_make_108 rfl 1 rfl ?_
                cases hm
                exact q_iret (pc := 109) C dX8_make_109
              · replace hm := hm_t c10 hm
                refine q_aload_n (pc := 80) C dX8_make_80 rfl 2 rfl ?_
                refine q_get (pc := 81) (T := TX8) (v := .ref (gad G 58)) C (by decide) (ce_0 _ _ _) (ci := 6) rfl inlX8 (j := 4) (by decide) rfl tw_31 (Or.inl rfl) dX8_make_81 ?_
                refine q_iload (pc := 84) C dX8_make_84 0 rfl ?_
                refine q_aald (pc := 86) (k := 42) (n := 3) C (by decide) (by decide) rfl dX8_make_86 ?_
                refine q_iload_n (pc := 87) C dX8_make_87 rfl 1 rfl ?_
                obtain ⟨S17, h18, hm⟩ := o1_some hm
                refine q_callU (pc := 88) (k := 42) (As := [.int r1]) (rest := []) (T := TX1) (owner := "Tessera$Store") (x := ⟨"Tessera$Store", "placeNew", "(I)V"⟩) C (c_Cou_placeNew hi h18) (by decide) (ce_42 _ _ _) (ci := 1) rfl (Or.inr (Or.inl (by decide))) tw_221 tw_222 tw_309 tw_308 tw_22 tw_310 (nA := 1) (by decide +kernel) rfl (by decide) (Nat.le_of_ble_eq_true rfl) rfl dX8_make_88 ?_
                refine q_iinc (pc := 91) (k := 0) (v := (4 : Int32)) (lv' := [(4, .int (4 : Int32)), (3, .int r1), (0, .ref (gad G 0)), (1, .int a1), (2, .int a2)]) C dX8_make_91 rfl (by decide) (by decide) rfl ?_
                refine q_goto (pc := 94) (tgt := 61) C dX8_make_94 (by decide) ?_
                refine q_iload (pc := 61) C dX8_make_61 0 rfl ?_
                refine q_iconst (pc := 63) (v := (4 : Int32)) C dX8_make_63 (by decide) ?_
                refine q_icmp_ge (pc := 64) (tgt := 97) C dX8_make_64 (by decide) (fun _ => ?_) (fun c => absurd c (by decide))
                refine q_aload_n (pc := 97) C dX8_make_97 rfl 2 rfl ?_
                refine q_iload_n (pc := 98) C dX8_make_98 rfl 4 rfl ?_
                refine q_iload_n (pc := 99) C dX8_make_99 rfl 1 rfl ?_
                obtain ⟨r7, S18, h19, hm⟩ := ob_some hm
                refine q_callV (pc := 100) (k := 0) (As := [.int a2, .int r1]) (rest := []) (T := TX8) C (c_Te_nameByRoot hi h19) (by decide) (ce_0 _ _ _) (ci := 6) rfl tw_585 tw_586 tw_587 tw_2 tw_588 (nA := 2) (by decide +kernel) rfl (by decide) (Nat.le_of_ble_eq_true rfl) rfl dX8_make_100 ?_
                refine q_pop (pc := 103) C dX8_make_103 rfl ?_
                refine q_aload_n (pc := 104) C dX8_make_104 rfl 2 rfl ?_
                obtain ⟨S19, h20, hm⟩ := o1_some hm
                refine q_callV (pc := 105) (k := 0) (As := []) (rest := []) (T := TX8) C (c_Te_closePauses hi h20) (by decide) (ce_0 _ _ _) (ci := 6) rfl tw_633 tw_634 tw_635 tw_2 tw_636 (nA := 0) (by decide +kernel) rfl (by decide) (Nat.le_of_ble_eq_true rfl) rfl dX8_make_105 ?_
                refine q_iload_n (pc := 108) C dX8_make_108 rfl 1 rfl ?_
                cases hm
                exact q_iret (pc := 109) C dX8_make_109
            · replace hm := hm_t c9 hm
              refine q_aload_n (pc := 80) C dX8_make_80 rfl 2 rfl ?_
              refine q_get (pc := 81) (T := TX8) (v := .ref (gad G 58)) C (by decide) (ce_0 _ _ _) (ci := 6) rfl inlX8 (j := 4) (by decide) rfl tw_31 (Or.inl rfl) dX8_make_81 ?_
              refine q_iload (pc := 84) C dX8_make_84 0 rfl ?_
              refine q_aald (pc := 86) (k := 31) (n := 2) C (by decide) (by decide) rfl dX8_make_86 ?_
              refine q_iload_n (pc := 87) C dX8_make_87 rfl 1 rfl ?_
              obtain ⟨S20, h21, hm⟩ := o1_some hm
              refine q_callU (pc := 88) (k := 31) (As := [.int r1]) (rest := []) (T := TX3) (owner := "Tessera$Store") (x := ⟨"Tessera$Store", "placeNew", "(I)V"⟩) C (c_Mar_placeNew hi h21) (by decide) (ce_31 _ _ _) (ci := 3) rfl (Or.inr (Or.inl (by decide))) tw_221 tw_222 tw_403 tw_402 tw_19 tw_404 (nA := 1) (by decide +kernel) rfl (by decide) (Nat.le_of_ble_eq_true rfl) rfl dX8_make_88 ?_
              refine q_iinc (pc := 91) (k := 0) (v := (3 : Int32)) (lv' := [(4, .int (3 : Int32)), (3, .int r1), (0, .ref (gad G 0)), (1, .int a1), (2, .int a2)]) C dX8_make_91 rfl (by decide) (by decide) rfl ?_
              refine q_goto (pc := 94) (tgt := 61) C dX8_make_94 (by decide) ?_
              refine q_iload (pc := 61) C dX8_make_61 0 rfl ?_
              refine q_iconst (pc := 63) (v := (4 : Int32)) C dX8_make_63 (by decide) ?_
              refine q_icmp_ge (pc := 64) (tgt := 97) C dX8_make_64 (by decide) (fun c => absurd c (by decide)) (fun _ => ?_)
              refine q_aload_n (pc := 67) C dX8_make_67 rfl 2 rfl ?_
              refine q_get (pc := 68) (T := TX8) (v := .ref (gad G 58)) C (by decide) (ce_0 _ _ _) (ci := 6) rfl inlX8 (j := 4) (by decide) rfl tw_31 (Or.inl rfl) dX8_make_68 ?_
              refine q_iload (pc := 71) C dX8_make_71 0 rfl ?_
              refine q_aald (pc := 73) (k := 42) (n := 3) C (by decide) (by decide) rfl dX8_make_73 ?_
              refine q_get (pc := 74) (T := TX1) (v := .int (S20 42 6)) C (by decide) (ce_42 _ _ _) (ci := 1) rfl inlX1 (j := 6) (by decide) rfl tw_199 (Or.inl rfl) dX8_make_74 ?_
              refine q_if_ne (pc := 77) (tgt := 91) C dX8_make_77 (by decide) (fun c11 => ?_) (fun c11 => ?_)
              · replace hm := hm_f c11 hm
                refine q_iinc (pc := 91) (k := 0) (v := (4 : Int32)) (lv' := [(4, .int (4 : Int32)), (3, .int r1), (0, .ref (gad G 0)), (1, .int a1), (2, .int a2)]) C dX8_make_91 rfl (by decide) (by decide) rfl ?_
                refine q_goto (pc := 94) (tgt := 61) C dX8_make_94 (by decide) ?_
                refine q_iload (pc := 61) C dX8_make_61 0 rfl ?_
                refine q_iconst (pc := 63) (v := (4 : Int32)) C dX8_make_63 (by decide) ?_
                refine q_icmp_ge (pc := 64) (tgt := 97) C dX8_make_64 (by decide) (fun _ => ?_) (fun c => absurd c (by decide))
                refine q_aload_n (pc := 97) C dX8_make_97 rfl 2 rfl ?_
                refine q_iload_n (pc := 98) C dX8_make_98 rfl 4 rfl ?_
                refine q_iload_n (pc := 99) C dX8_make_99 rfl 1 rfl ?_
                obtain ⟨r8, S21, h22, hm⟩ := ob_some hm
                refine q_callV (pc := 100) (k := 0) (As := [.int a2, .int r1]) (rest := []) (T := TX8) C (c_Te_nameByRoot hi h22) (by decide) (ce_0 _ _ _) (ci := 6) rfl tw_585 tw_586 tw_587 tw_2 tw_588 (nA := 2) (by decide +kernel) rfl (by decide) (Nat.le_of_ble_eq_true rfl) rfl dX8_make_100 ?_
                refine q_pop (pc := 103) C dX8_make_103 rfl ?_
                refine q_aload_n (pc := 104) C dX8_make_104 rfl 2 rfl ?_
                obtain ⟨S22, h23, hm⟩ := o1_some hm
                refine q_callV (pc := 105) (k := 0) (As := []) (rest := []) (T := TX8) C (c_Te_closePauses hi h23) (by decide) (ce_0 _ _ _) (ci := 6) rfl tw_633 tw_634 tw_635 tw_2 tw_636 (nA := 0) (by decide +kernel) rfl (by decide) (Nat.le_of_ble_eq_true rfl) rfl dX8_make_105 ?_
                refine q_iload_n (pc := 108) C dX8_make_108 rfl 1 rfl ?_
                cases hm
                exact q_iret (pc := 109) C dX8_make_109
              · replace hm := hm_t c11 hm
                refine q_aload_n (pc := 80) C dX8_make_80 rfl 2 rfl ?_
                refine q_get (pc := 81) (T := TX8) (v := .ref (gad G 58)) C (by decide) (ce_0 _ _ _) (ci := 6) rfl inlX8 (j := 4) (by decide) rfl tw_31 (Or.inl rfl) dX8_make_81 ?_
                refine q_iload (pc := 84) C dX8_make_84 0 rfl ?_
                refine q_aald (pc := 86) (k := 42) (n := 3) C (by decide) (by decide) rfl dX8_make_86 ?_
                refine q_iload_n (pc := 87) C dX8_make_87 rfl 1 rfl ?_
                obtain ⟨S23, h24, hm⟩ := o1_some hm
                refine q_callU (pc := 88) (k := 42) (As := [.int r1]) (rest := []) (T := TX1) (owner := "Tessera$Store") (x := ⟨"Tessera$Store", "placeNew", "(I)V"⟩) C (c_Cou_placeNew hi h24) (by decide) (ce_42 _ _ _) (ci := 1) rfl (Or.inr (Or.inl (by decide))) tw_221 tw_222 tw_309 tw_308 tw_22 tw_310 (nA := 1) (by decide +kernel) rfl (by decide) (Nat.le_of_ble_eq_true rfl) rfl dX8_make_88 ?_
                refine q_iinc (pc := 91) (k := 0) (v := (4 : Int32)) (lv' := [(4, .int (4 : Int32)), (3, .int r1), (0, .ref (gad G 0)), (1, .int a1), (2, .int a2)]) C dX8_make_91 rfl (by decide) (by decide) rfl ?_
                refine q_goto (pc := 94) (tgt := 61) C dX8_make_94 (by decide) ?_
                refine q_iload (pc := 61) C dX8_make_61 0 rfl ?_
                refine q_iconst (pc := 63) (v := (4 : Int32)) C dX8_make_63 (by decide) ?_
                refine q_icmp_ge (pc := 64) (tgt := 97) C dX8_make_64 (by decide) (fun _ => ?_) (fun c => absurd c (by decide))
                refine q_aload_n (pc := 97) C dX8_make_97 rfl 2 rfl ?_
                refine q_iload_n (pc := 98) C dX8_make_98 rfl 4 rfl ?_
                refine q_iload_n (pc := 99) C dX8_make_99 rfl 1 rfl ?_
                obtain ⟨r9, S24, h25, hm⟩ := ob_some hm
                refine q_callV (pc := 100) (k := 0) (As := [.int a2, .int r1]) (rest := []) (T := TX8) C (c_Te_nameByRoot hi h25) (by decide) (ce_0 _ _ _) (ci := 6) rfl tw_585 tw_586 tw_587 tw_2 tw_588 (nA := 2) (by decide +kernel) rfl (by decide) (Nat.le_of_ble_eq_true rfl) rfl dX8_make_100 ?_
                refine q_pop (pc := 103) C dX8_make_103 rfl ?_
                refine q_aload_n (pc := 104) C dX8_make_104 rfl 2 rfl ?_
                obtain ⟨S25, h26, hm⟩ := o1_some hm
                refine q_callV (pc := 105) (k := 0) (As := []) (rest := []) (T := TX8) C (c_Te_closePauses hi h26) (by decide) (ce_0 _ _ _) (ci := 6) rfl tw_633 tw_634 tw_635 tw_2 tw_636 (nA := 0) (by decide +kernel) rfl (by decide) (Nat.le_of_ble_eq_true rfl) rfl dX8_make_105 ?_
                refine q_iload_n (pc := 108) C dX8_make_108 rfl 1 rfl ?_
                cases hm
                exact q_iret (pc := 109) C dX8_make_109
        · replace hm := hm_t c4 hm
          refine q_aload_n (pc := 80) C dX8_make_80 rfl 2 rfl ?_
          refine q_get (pc := 81) (T := TX8) (v := .ref (gad G 58)) C (by decide) (ce_0 _ _ _) (ci := 6) rfl inlX8 (j := 4) (by decide) rfl tw_31 (Or.inl rfl) dX8_make_81 ?_
          refine q_iload (pc := 84) C dX8_make_84 0 rfl ?_
          refine q_aald (pc := 86) (k := 12) (n := 0) C (by decide) (by decide) rfl dX8_make_86 ?_
          refine q_iload_n (pc := 87) C dX8_make_87 rfl 1 rfl ?_
          obtain ⟨S26, h27, hm⟩ := o1_some hm
          refine q_callU (pc := 88) (k := 12) (As := [.int r1]) (rest := []) (T := TX0) (owner := "Tessera$Store") (x := ⟨"Tessera$Store", "placeNew", "(I)V"⟩) C (c_Cop_placeNew hi h27) (by decide) (ce_12 _ _ _) (ci := 0) rfl (Or.inr (Or.inl (by decide))) tw_221 tw_222 tw_224 tw_223 tw_26 tw_225 (nA := 1) (by decide +kernel) rfl (by decide) (Nat.le_of_ble_eq_true rfl) rfl dX8_make_88 ?_
          refine q_iinc (pc := 91) (k := 0) (v := (1 : Int32)) (lv' := [(4, .int (1 : Int32)), (3, .int r1), (0, .ref (gad G 0)), (1, .int a1), (2, .int a2)]) C dX8_make_91 rfl (by decide) (by decide) rfl ?_
          refine q_goto (pc := 94) (tgt := 61) C dX8_make_94 (by decide) ?_
          refine q_iload (pc := 61) C dX8_make_61 0 rfl ?_
          refine q_iconst (pc := 63) (v := (4 : Int32)) C dX8_make_63 (by decide) ?_
          refine q_icmp_ge (pc := 64) (tgt := 97) C dX8_make_64 (by decide) (fun c => absurd c (by decide)) (fun _ => ?_)
          refine q_aload_n (pc := 67) C dX8_make_67 rfl 2 rfl ?_
          refine q_get (pc := 68) (T := TX8) (v := .ref (gad G 58)) C (by decide) (ce_0 _ _ _) (ci := 6) rfl inlX8 (j := 4) (by decide) rfl tw_31 (Or.inl rfl) dX8_make_68 ?_
          refine q_iload (pc := 71) C dX8_make_71 0 rfl ?_
          refine q_aald (pc := 73) (k := 18) (n := 1) C (by decide) (by decide) rfl dX8_make_73 ?_
          refine q_get (pc := 74) (T := TX4) (v := .int (S26 18 5)) C (by decide) (ce_18 _ _ _) (ci := 4) rfl inlX4 (j := 5) (by decide) rfl tw_199 (Or.inl rfl) dX8_make_74 ?_
          refine q_if_ne (pc := 77) (tgt := 91) C dX8_make_77 (by decide) (fun c12 => ?_) (fun c12 => ?_)
          · replace hm := hm_f c12 hm
            refine q_iinc (pc := 91) (k := 0) (v := (2 : Int32)) (lv' := [(4, .int (2 : Int32)), (3, .int r1), (0, .ref (gad G 0)), (1, .int a1), (2, .int a2)]) C dX8_make_91 rfl (by decide) (by decide) rfl ?_
            refine q_goto (pc := 94) (tgt := 61) C dX8_make_94 (by decide) ?_
            refine q_iload (pc := 61) C dX8_make_61 0 rfl ?_
            refine q_iconst (pc := 63) (v := (4 : Int32)) C dX8_make_63 (by decide) ?_
            refine q_icmp_ge (pc := 64) (tgt := 97) C dX8_make_64 (by decide) (fun c => absurd c (by decide)) (fun _ => ?_)
            refine q_aload_n (pc := 67) C dX8_make_67 rfl 2 rfl ?_
            refine q_get (pc := 68) (T := TX8) (v := .ref (gad G 58)) C (by decide) (ce_0 _ _ _) (ci := 6) rfl inlX8 (j := 4) (by decide) rfl tw_31 (Or.inl rfl) dX8_make_68 ?_
            refine q_iload (pc := 71) C dX8_make_71 0 rfl ?_
            refine q_aald (pc := 73) (k := 31) (n := 2) C (by decide) (by decide) rfl dX8_make_73 ?_
            refine q_get (pc := 74) (T := TX3) (v := .int (S26 31 6)) C (by decide) (ce_31 _ _ _) (ci := 3) rfl inlX3 (j := 6) (by decide) rfl tw_199 (Or.inl rfl) dX8_make_74 ?_
            refine q_if_ne (pc := 77) (tgt := 91) C dX8_make_77 (by decide) (fun c13 => ?_) (fun c13 => ?_)
            · replace hm := hm_f c13 hm
              refine q_iinc (pc := 91) (k := 0) (v := (3 : Int32)) (lv' := [(4, .int (3 : Int32)), (3, .int r1), (0, .ref (gad G 0)), (1, .int a1), (2, .int a2)]) C dX8_make_91 rfl (by decide) (by decide) rfl ?_
              refine q_goto (pc := 94) (tgt := 61) C dX8_make_94 (by decide) ?_
              refine q_iload (pc := 61) C dX8_make_61 0 rfl ?_
              refine q_iconst (pc := 63) (v := (4 : Int32)) C dX8_make_63 (by decide) ?_
              refine q_icmp_ge (pc := 64) (tgt := 97) C dX8_make_64 (by decide) (fun c => absurd c (by decide)) (fun _ => ?_)
              refine q_aload_n (pc := 67) C dX8_make_67 rfl 2 rfl ?_
              refine q_get (pc := 68) (T := TX8) (v := .ref (gad G 58)) C (by decide) (ce_0 _ _ _) (ci := 6) rfl inlX8 (j := 4) (by decide) rfl tw_31 (Or.inl rfl) dX8_make_68 ?_
              refine q_iload (pc := 71) C dX8_make_71 0 rfl ?_
              refine q_aald (pc := 73) (k := 42) (n := 3) C (by decide) (by decide) rfl dX8_make_73 ?_
              refine q_get (pc := 74) (T := TX1) (v := .int (S26 42 6)) C (by decide) (ce_42 _ _ _) (ci := 1) rfl inlX1 (j := 6) (by decide) rfl tw_199 (Or.inl rfl) dX8_make_74 ?_
              refine q_if_ne (pc := 77) (tgt := 91) C dX8_make_77 (by decide) (fun c14 => ?_) (fun c14 => ?_)
              · replace hm := hm_f c14 hm
                refine q_iinc (pc := 91) (k := 0) (v := (4 : Int32)) (lv' := [(4, .int (4 : Int32)), (3, .int r1), (0, .ref (gad G 0)), (1, .int a1), (2, .int a2)]) C dX8_make_91 rfl (by decide) (by decide) rfl ?_
                refine q_goto (pc := 94) (tgt := 61) C dX8_make_94 (by decide) ?_
                refine q_iload (pc := 61) C dX8_make_61 0 rfl ?_
                refine q_iconst (pc := 63) (v := (4 : Int32)) C dX8_make_63 (by decide) ?_
                refine q_icmp_ge (pc := 64) (tgt := 97) C dX8_make_64 (by decide) (fun _ => ?_) (fun c => absurd c (by decide))
                refine q_aload_n (pc := 97) C dX8_make_97 rfl 2 rfl ?_
                refine q_iload_n (pc := 98) C dX8_make_98 rfl 4 rfl ?_
                refine q_iload_n (pc := 99) C dX8_make_99 rfl 1 rfl ?_
                obtain ⟨r10, S27, h28, hm⟩ := ob_some hm
                refine q_callV (pc := 100) (k := 0) (As := [.int a2, .int r1]) (rest := []) (T := TX8) C (c_Te_nameByRoot hi h28) (by decide) (ce_0 _ _ _) (ci := 6) rfl tw_585 tw_586 tw_587 tw_2 tw_588 (nA := 2) (by decide +kernel) rfl (by decide) (Nat.le_of_ble_eq_true rfl) rfl dX8_make_100 ?_
                refine q_pop (pc := 103) C dX8_make_103 rfl ?_
                refine q_aload_n (pc := 104) C dX8_make_104 rfl 2 rfl ?_
                obtain ⟨S28, h29, hm⟩ := o1_some hm
                refine q_callV (pc := 105) (k := 0) (As := []) (rest := []) (T := TX8) C (c_Te_closePauses hi h29) (by decide) (ce_0 _ _ _) (ci := 6) rfl tw_633 tw_634 tw_635 tw_2 tw_636 (nA := 0) (by decide +kernel) rfl (by decide) (Nat.le_of_ble_eq_true rfl) rfl dX8_make_105 ?_
                refine q_iload_n (pc := 108) C dX8_make_108 rfl 1 rfl ?_
                cases hm
                exact q_iret (pc := 109) C dX8_make_109
              · replace hm := hm_t c14 hm
                refine q_aload_n (pc := 80) C dX8_make_80 rfl 2 rfl ?_
                refine q_get (pc := 81) (T := TX8) (v := .ref (gad G 58)) C (by decide) (ce_0 _ _ _) (ci := 6) rfl inlX8 (j := 4) (by decide) rfl tw_31 (Or.inl rfl) dX8_make_81 ?_
                refine q_iload (pc := 84) C dX8_make_84 0 rfl ?_
                refine q_aald (pc := 86) (k := 42) (n := 3) C (by decide) (by decide) rfl dX8_make_86 ?_
                refine q_iload_n (pc := 87) C dX8_make_87 rfl 1 rfl ?_
                obtain ⟨S29, h30, hm⟩ := o1_some hm
                refine q_callU (pc := 88) (k := 42) (As := [.int r1]) (rest := []) (T := TX1) (owner := "Tessera$Store") (x := ⟨"Tessera$Store", "placeNew", "(I)V"⟩) C (c_Cou_placeNew hi h30) (by decide) (ce_42 _ _ _) (ci := 1) rfl (Or.inr (Or.inl (by decide))) tw_221 tw_222 tw_309 tw_308 tw_22 tw_310 (nA := 1) (by decide +kernel) rfl (by decide) (Nat.le_of_ble_eq_true rfl) rfl dX8_make_88 ?_
                refine q_iinc (pc := 91) (k := 0) (v := (4 : Int32)) (lv' := [(4, .int (4 : Int32)), (3, .int r1), (0, .ref (gad G 0)), (1, .int a1), (2, .int a2)]) C dX8_make_91 rfl (by decide) (by decide) rfl ?_
                refine q_goto (pc := 94) (tgt := 61) C dX8_make_94 (by decide) ?_
                refine q_iload (pc := 61) C dX8_make_61 0 rfl ?_
                refine q_iconst (pc := 63) (v := (4 : Int32)) C dX8_make_63 (by decide) ?_
                refine q_icmp_ge (pc := 64) (tgt := 97) C dX8_make_64 (by decide) (fun _ => ?_) (fun c => absurd c (by decide))
                refine q_aload_n (pc := 97) C dX8_make_97 rfl 2 rfl ?_
                refine q_iload_n (pc := 98) C dX8_make_98 rfl 4 rfl ?_
                refine q_iload_n (pc := 99) C dX8_make_99 rfl 1 rfl ?_
                obtain ⟨r11, S30, h31, hm⟩ := ob_some hm
                refine q_callV (pc := 100) (k := 0) (As := [.int a2, .int r1]) (rest := []) (T := TX8) C (c_Te_nameByRoot hi h31) (by decide) (ce_0 _ _ _) (ci := 6) rfl tw_585 tw_586 tw_587 tw_2 tw_588 (nA := 2) (by decide +kernel) rfl (by decide) (Nat.le_of_ble_eq_true rfl) rfl dX8_make_100 ?_
                refine q_pop (pc := 103) C dX8_make_103 rfl ?_
                refine q_aload_n (pc := 104) C dX8_make_104 rfl 2 rfl ?_
                obtain ⟨S31, h32, hm⟩ := o1_some hm
                refine q_callV (pc := 105) (k := 0) (As := []) (rest := []) (T := TX8) C (c_Te_closePauses hi h32) (by decide) (ce_0 _ _ _) (ci := 6) rfl tw_633 tw_634 tw_635 tw_2 tw_636 (nA := 0) (by decide +kernel) rfl (by decide) (Nat.le_of_ble_eq_true rfl) rfl dX8_make_105 ?_
                refine q_iload_n (pc := 108) C dX8_make_108 rfl 1 rfl ?_
                cases hm
                exact q_iret (pc := 109) C dX8_make_109
            · replace hm := hm_t c13 hm
              refine q_aload_n (pc := 80) C dX8_make_80 rfl 2 rfl ?_
              refine q_get (pc := 81) (T := TX8) (v := .ref (gad G 58)) C (by decide) (ce_0 _ _ _) (ci := 6) rfl inlX8 (j := 4) (by decide) rfl tw_31 (Or.inl rfl) dX8_make_81 ?_
              refine q_iload (pc := 84) C dX8_make_84 0 rfl ?_
              refine q_aald (pc := 86) (k := 31) (n := 2) C (by decide) (by decide) rfl dX8_make_86 ?_
              refine q_iload_n (pc := 87) C dX8_make_87 rfl 1 rfl ?_
              obtain ⟨S32, h33, hm⟩ := o1_some hm
              refine q_callU (pc := 88) (k := 31) (As := [.int r1]) (rest := []) (T := TX3) (owner := "Tessera$Store") (x := ⟨"Tessera$Store", "placeNew", "(I)V"⟩) C (c_Mar_placeNew hi h33) (by decide) (ce_31 _ _ _) (ci := 3) rfl (Or.inr (Or.inl (by decide))) tw_221 tw_222 tw_403 tw_402 tw_19 tw_404 (nA := 1) (by decide +kernel) rfl (by decide) (Nat.le_of_ble_eq_true rfl) rfl dX8_make_88 ?_
              refine q_iinc (pc := 91) (k := 0) (v := (3 : Int32)) (lv' := [(4, .int (3 : Int32)), (3, .int r1), (0, .ref (gad G 0)), (1, .int a1), (2, .int a2)]) C dX8_make_91 rfl (by decide) (by decide) rfl ?_
              refine q_goto (pc := 94) (tgt := 61) C dX8_make_94 (by decide) ?_
              refine q_iload (pc := 61) C dX8_make_61 0 rfl ?_
              refine q_iconst (pc := 63) (v := (4 : Int32)) C dX8_make_63 (by decide) ?_
              refine q_icmp_ge (pc := 64) (tgt := 97) C dX8_make_64 (by decide) (fun c => absurd c (by decide)) (fun _ => ?_)
              refine q_aload_n (pc := 67) C dX8_make_67 rfl 2 rfl ?_
              refine q_get (pc := 68) (T := TX8) (v := .ref (gad G 58)) C (by decide) (ce_0 _ _ _) (ci := 6) rfl inlX8 (j := 4) (by decide) rfl tw_31 (Or.inl rfl) dX8_make_68 ?_
              refine q_iload (pc := 71) C dX8_make_71 0 rfl ?_
              refine q_aald (pc := 73) (k := 42) (n := 3) C (by decide) (by decide) rfl dX8_make_73 ?_
              refine q_get (pc := 74) (T := TX1) (v := .int (S32 42 6)) C (by decide) (ce_42 _ _ _) (ci := 1) rfl inlX1 (j := 6) (by decide) rfl tw_199 (Or.inl rfl) dX8_make_74 ?_
              refine q_if_ne (pc := 77) (tgt := 91) C dX8_make_77 (by decide) (fun c15 => ?_) (fun c15 => ?_)
              · replace hm := hm_f c15 hm
                refine q_iinc (pc := 91) (k := 0) (v := (4 : Int32)) (lv' := [(4, .int (4 : Int32)), (3, .int r1), (0, .ref (gad G 0)), (1, .int a1), (2, .int a2)]) C dX8_make_91 rfl (by decide) (by decide) rfl ?_
                refine q_goto (pc := 94) (tgt := 61) C dX8_make_94 (by decide) ?_
                refine q_iload (pc := 61) C dX8_make_61 0 rfl ?_
                refine q_iconst (pc := 63) (v := (4 : Int32)) C dX8_make_63 (by decide) ?_
                refine q_icmp_ge (pc := 64) (tgt := 97) C dX8_make_64 (by decide) (fun _ => ?_) (fun c => absurd c (by decide))
                refine q_aload_n (pc := 97) C dX8_make_97 rfl 2 rfl ?_
                refine q_iload_n (pc := 98) C dX8_make_98 rfl 4 rfl ?_
                refine q_iload_n (pc := 99) C dX8_make_99 rfl 1 rfl ?_
                obtain ⟨r12, S33, h34, hm⟩ := ob_some hm
                refine q_callV (pc := 100) (k := 0) (As := [.int a2, .int r1]) (rest := []) (T := TX8) C (c_Te_nameByRoot hi h34) (by decide) (ce_0 _ _ _) (ci := 6) rfl tw_585 tw_586 tw_587 tw_2 tw_588 (nA := 2) (by decide +kernel) rfl (by decide) (Nat.le_of_ble_eq_true rfl) rfl dX8_make_100 ?_
                refine q_pop (pc := 103) C dX8_make_103 rfl ?_
                refine q_aload_n (pc := 104) C dX8_make_104 rfl 2 rfl ?_
                obtain ⟨S34, h35, hm⟩ := o1_some hm
                refine q_callV (pc := 105) (k := 0) (As := []) (rest := []) (T := TX8) C (c_Te_closePauses hi h35) (by decide) (ce_0 _ _ _) (ci := 6) rfl tw_633 tw_634 tw_635 tw_2 tw_636 (nA := 0) (by decide +kernel) rfl (by decide) (Nat.le_of_ble_eq_true rfl) rfl dX8_make_105 ?_
                refine q_iload_n (pc := 108) C dX8_make_108 rfl 1 rfl ?_
                cases hm
                exact q_iret (pc := 109) C dX8_make_109
              · replace hm := hm_t c15 hm
                refine q_aload_n (pc := 80) C dX8_make_80 rfl 2 rfl ?_
                refine q_get (pc := 81) (T := TX8) (v := .ref (gad G 58)) C (by decide) (ce_0 _ _ _) (ci := 6) rfl inlX8 (j := 4) (by decide) rfl tw_31 (Or.inl rfl) dX8_make_81 ?_
                refine q_iload (pc := 84) C dX8_make_84 0 rfl ?_
                refine q_aald (pc := 86) (k := 42) (n := 3) C (by decide) (by decide) rfl dX8_make_86 ?_
                refine q_iload_n (pc := 87) C dX8_make_87 rfl 1 rfl ?_
                obtain ⟨S35, h36, hm⟩ := o1_some hm
                refine q_callU (pc := 88) (k := 42) (As := [.int r1]) (rest := []) (T := TX1) (owner := "Tessera$Store") (x := ⟨"Tessera$Store", "placeNew", "(I)V"⟩) C (c_Cou_placeNew hi h36) (by decide) (ce_42 _ _ _) (ci := 1) rfl (Or.inr (Or.inl (by decide))) tw_221 tw_222 tw_309 tw_308 tw_22 tw_310 (nA := 1) (by decide +kernel) rfl (by decide) (Nat.le_of_ble_eq_true rfl) rfl dX8_make_88 ?_
                refine q_iinc (pc := 91) (k := 0) (v := (4 : Int32)) (lv' := [(4, .int (4 : Int32)), (3, .int r1), (0, .ref (gad G 0)), (1, .int a1), (2, .int a2)]) C dX8_make_91 rfl (by decide) (by decide) rfl ?_
                refine q_goto (pc := 94) (tgt := 61) C dX8_make_94 (by decide) ?_
                refine q_iload (pc := 61) C dX8_make_61 0 rfl ?_
                refine q_iconst (pc := 63) (v := (4 : Int32)) C dX8_make_63 (by decide) ?_
                refine q_icmp_ge (pc := 64) (tgt := 97) C dX8_make_64 (by decide) (fun _ => ?_) (fun c => absurd c (by decide))
                refine q_aload_n (pc := 97) C dX8_make_97 rfl 2 rfl ?_
                refine q_iload_n (pc := 98) C dX8_make_98 rfl 4 rfl ?_
                refine q_iload_n (pc := 99) C dX8_make_99 rfl 1 rfl ?_
                obtain ⟨r13, S36, h37, hm⟩ := ob_some hm
                refine q_callV (pc := 100) (k := 0) (As := [.int a2, .int r1]) (rest := []) (T := TX8) C (c_Te_nameByRoot hi h37) (by decide) (ce_0 _ _ _) (ci := 6) rfl tw_585 tw_586 tw_587 tw_2 tw_588 (nA := 2) (by decide +kernel) rfl (by decide) (Nat.le_of_ble_eq_true rfl) rfl dX8_make_100 ?_
                refine q_pop (pc := 103) C dX8_make_103 rfl ?_
                refine q_aload_n (pc := 104) C dX8_make_104 rfl 2 rfl ?_
                obtain ⟨S37, h38, hm⟩ := o1_some hm
                refine q_callV (pc := 105) (k := 0) (As := []) (rest := []) (T := TX8) C (c_Te_closePauses hi h38) (by decide) (ce_0 _ _ _) (ci := 6) rfl tw_633 tw_634 tw_635 tw_2 tw_636 (nA := 0) (by decide +kernel) rfl (by decide) (Nat.le_of_ble_eq_true rfl) rfl dX8_make_105 ?_
                refine q_iload_n (pc := 108) C dX8_make_108 rfl 1 rfl ?_
                cases hm
                exact q_iret (pc := 109) C dX8_make_109
          · replace hm := hm_t c12 hm
            refine q_aload_n (pc := 80) C dX8_make_80 rfl 2 rfl ?_
            refine q_get (pc := 81) (T := TX8) (v := .ref (gad G 58)) C (by decide) (ce_0 _ _ _) (ci := 6) rfl inlX8 (j := 4) (by decide) rfl tw_31 (Or.inl rfl) dX8_make_81 ?_
            refine q_iload (pc := 84) C dX8_make_84 0 rfl ?_
            refine q_aald (pc := 86) (k := 18) (n := 1) C (by decide) (by decide) rfl dX8_make_86 ?_
            refine q_iload_n (pc := 87) C dX8_make_87 rfl 1 rfl ?_
            obtain ⟨S38, h39, hm⟩ := o1_some hm
            refine q_callU (pc := 88) (k := 18) (As := [.int r1]) (rest := []) (T := TX4) (owner := "Tessera$Store") (x := ⟨"Tessera$Store", "placeNew", "(I)V"⟩) C (c_Nur_placeNew hi h39) (by decide) (ce_18 _ _ _) (ci := 4) rfl (Or.inr (Or.inl (by decide))) tw_221 tw_222 tw_482 tw_481 tw_16 tw_483 (nA := 1) (by decide +kernel) rfl (by decide) (Nat.le_of_ble_eq_true rfl) rfl dX8_make_88 ?_
            refine q_iinc (pc := 91) (k := 0) (v := (2 : Int32)) (lv' := [(4, .int (2 : Int32)), (3, .int r1), (0, .ref (gad G 0)), (1, .int a1), (2, .int a2)]) C dX8_make_91 rfl (by decide) (by decide) rfl ?_
            refine q_goto (pc := 94) (tgt := 61) C dX8_make_94 (by decide) ?_
            refine q_iload (pc := 61) C dX8_make_61 0 rfl ?_
            refine q_iconst (pc := 63) (v := (4 : Int32)) C dX8_make_63 (by decide) ?_
            refine q_icmp_ge (pc := 64) (tgt := 97) C dX8_make_64 (by decide) (fun c => absurd c (by decide)) (fun _ => ?_)
            refine q_aload_n (pc := 67) C dX8_make_67 rfl 2 rfl ?_
            refine q_get (pc := 68) (T := TX8) (v := .ref (gad G 58)) C (by decide) (ce_0 _ _ _) (ci := 6) rfl inlX8 (j := 4) (by decide) rfl tw_31 (Or.inl rfl) dX8_make_68 ?_
            refine q_iload (pc := 71) C dX8_make_71 0 rfl ?_
            refine q_aald (pc := 73) (k := 31) (n := 2) C (by decide) (by decide) rfl dX8_make_73 ?_
            refine q_get (pc := 74) (T := TX3) (v := .int (S38 31 6)) C (by decide) (ce_31 _ _ _) (ci := 3) rfl inlX3 (j := 6) (by decide) rfl tw_199 (Or.inl rfl) dX8_make_74 ?_
            refine q_if_ne (pc := 77) (tgt := 91) C dX8_make_77 (by decide) (fun c16 => ?_) (fun c16 => ?_)
            · replace hm := hm_f c16 hm
              refine q_iinc (pc := 91) (k := 0) (v := (3 : Int32)) (lv' := [(4, .int (3 : Int32)), (3, .int r1), (0, .ref (gad G 0)), (1, .int a1), (2, .int a2)]) C dX8_make_91 rfl (by decide) (by decide) rfl ?_
              refine q_goto (pc := 94) (tgt := 61) C dX8_make_94 (by decide) ?_
              refine q_iload (pc := 61) C dX8_make_61 0 rfl ?_
              refine q_iconst (pc := 63) (v := (4 : Int32)) C dX8_make_63 (by decide) ?_
              refine q_icmp_ge (pc := 64) (tgt := 97) C dX8_make_64 (by decide) (fun c => absurd c (by decide)) (fun _ => ?_)
              refine q_aload_n (pc := 67) C dX8_make_67 rfl 2 rfl ?_
              refine q_get (pc := 68) (T := TX8) (v := .ref (gad G 58)) C (by decide) (ce_0 _ _ _) (ci := 6) rfl inlX8 (j := 4) (by decide) rfl tw_31 (Or.inl rfl) dX8_make_68 ?_
              refine q_iload (pc := 71) C dX8_make_71 0 rfl ?_
              refine q_aald (pc := 73) (k := 42) (n := 3) C (by decide) (by decide) rfl dX8_make_73 ?_
              refine q_get (pc := 74) (T := TX1) (v := .int (S38 42 6)) C (by decide) (ce_42 _ _ _) (ci := 1) rfl inlX1 (j := 6) (by decide) rfl tw_199 (Or.inl rfl) dX8_make_74 ?_
              refine q_if_ne (pc := 77) (tgt := 91) C dX8_make_77 (by decide) (fun c17 => ?_) (fun c17 => ?_)
              · replace hm := hm_f c17 hm
                refine q_iinc (pc := 91) (k := 0) (v := (4 : Int32)) (lv' := [(4, .int (4 : Int32)), (3, .int r1), (0, .ref (gad G 0)), (1, .int a1), (2, .int a2)]) C dX8_make_91 rfl (by decide) (by decide) rfl ?_
                refine q_goto (pc := 94) (tgt := 61) C dX8_make_94 (by decide) ?_
                refine q_iload (pc := 61) C dX8_make_61 0 rfl ?_
                refine q_iconst (pc := 63) (v := (4 : Int32)) C dX8_make_63 (by decide) ?_
                refine q_icmp_ge (pc := 64) (tgt := 97) C dX8_make_64 (by decide) (fun _ => ?_) (fun c => absurd c (by decide))
                refine q_aload_n (pc := 97) C dX8_make_97 rfl 2 rfl ?_
                refine q_iload_n (pc := 98) C dX8_make_98 rfl 4 rfl ?_
                refine q_iload_n (pc := 99) C dX8_make_99 rfl 1 rfl ?_
                obtain ⟨r14, S39, h40, hm⟩ := ob_some hm
                refine q_callV (pc := 100) (k := 0) (As := [.int a2, .int r1]) (rest := []) (T := TX8) C (c_Te_nameByRoot hi h40) (by decide) (ce_0 _ _ _) (ci := 6) rfl tw_585 tw_586 tw_587 tw_2 tw_588 (nA := 2) (by decide +kernel) rfl (by decide) (Nat.le_of_ble_eq_true rfl) rfl dX8_make_100 ?_
                refine q_pop (pc := 103) C dX8_make_103 rfl ?_
                refine q_aload_n (pc := 104) C dX8_make_104 rfl 2 rfl ?_
                obtain ⟨S40, h41, hm⟩ := o1_some hm
                refine q_callV (pc := 105) (k := 0) (As := []) (rest := []) (T := TX8) C (c_Te_closePauses hi h41) (by decide) (ce_0 _ _ _) (ci := 6) rfl tw_633 tw_634 tw_635 tw_2 tw_636 (nA := 0) (by decide +kernel) rfl (by decide) (Nat.le_of_ble_eq_true rfl) rfl dX8_make_105 ?_
                refine q_iload_n (pc := 108) C dX8_make_108 rfl 1 rfl ?_
                cases hm
                exact q_iret (pc := 109) C dX8_make_109
              · replace hm := hm_t c17 hm
                refine q_aload_n (pc := 80) C dX8_make_80 rfl 2 rfl ?_
                refine q_get (pc := 81) (T := TX8) (v := .ref (gad G 58)) C (by decide) (ce_0 _ _ _) (ci := 6) rfl inlX8 (j := 4) (by decide) rfl tw_31 (Or.inl rfl) dX8_make_81 ?_
                refine q_iload (pc := 84) C dX8_make_84 0 rfl ?_
                refine q_aald (pc := 86) (k := 42) (n := 3) C (by decide) (by decide) rfl dX8_make_86 ?_
                refine q_iload_n (pc := 87) C dX8_make_87 rfl 1 rfl ?_
                obtain ⟨S41, h42, hm⟩ := o1_some hm
                refine q_callU (pc := 88) (k := 42) (As := [.int r1]) (rest := []) (T := TX1) (owner := "Tessera$Store") (x := ⟨"Tessera$Store", "placeNew", "(I)V"⟩) C (c_Cou_placeNew hi h42) (by decide) (ce_42 _ _ _) (ci := 1) rfl (Or.inr (Or.inl (by decide))) tw_221 tw_222 tw_309 tw_308 tw_22 tw_310 (nA := 1) (by decide +kernel) rfl (by decide) (Nat.le_of_ble_eq_true rfl) rfl dX8_make_88 ?_
                refine q_iinc (pc := 91) (k := 0) (v := (4 : Int32)) (lv' := [(4, .int (4 : Int32)), (3, .int r1), (0, .ref (gad G 0)), (1, .int a1), (2, .int a2)]) C dX8_make_91 rfl (by decide) (by decide) rfl ?_
                refine q_goto (pc := 94) (tgt := 61) C dX8_make_94 (by decide) ?_
                refine q_iload (pc := 61) C dX8_make_61 0 rfl ?_
                refine q_iconst (pc := 63) (v := (4 : Int32)) C dX8_make_63 (by decide) ?_
                refine q_icmp_ge (pc := 64) (tgt := 97) C dX8_make_64 (by decide) (fun _ => ?_) (fun c => absurd c (by decide))
                refine q_aload_n (pc := 97) C dX8_make_97 rfl 2 rfl ?_
                refine q_iload_n (pc := 98) C dX8_make_98 rfl 4 rfl ?_
                refine q_iload_n (pc := 99) C dX8_make_99 rfl 1 rfl ?_
                obtain ⟨r15, S42, h43, hm⟩ := ob_some hm
                refine q_callV (pc := 100) (k := 0) (As := [.int a2, .int r1]) (rest := []) (T := TX8) C (c_Te_nameByRoot hi h43) (by decide) (ce_0 _ _ _) (ci := 6) rfl tw_585 tw_586 tw_587 tw_2 tw_588 (nA := 2) (by decide +kernel) rfl (by decide) (Nat.le_of_ble_eq_true rfl) rfl dX8_make_100 ?_
                refine q_pop (pc := 103) C dX8_make_103 rfl ?_
                refine q_aload_n (pc := 104) C dX8_make_104 rfl 2 rfl ?_
                obtain ⟨S43, h44, hm⟩ := o1_some hm
                refine q_callV (pc := 105) (k := 0) (As := []) (rest := []) (T := TX8) C (c_Te_closePauses hi h44) (by decide) (ce_0 _ _ _) (ci := 6) rfl tw_633 tw_634 tw_635 tw_2 tw_636 (nA := 0) (by decide +kernel) rfl (by decide) (Nat.le_of_ble_eq_true rfl) rfl dX8_make_105 ?_
                refine q_iload_n (pc := 108) C dX8_make_108 rfl 1 rfl ?_
                cases hm
                exact q_iret (pc := 109) C dX8_make_109
            · replace hm := hm_t c16 hm
              refine q_aload_n (pc := 80) C dX8_make_80 rfl 2 rfl ?_
              refine q_get (pc := 81) (T := TX8) (v := .ref (gad G 58)) C (by decide) (ce_0 _ _ _) (ci := 6) rfl inlX8 (j := 4) (by decide) rfl tw_31 (Or.inl rfl) dX8_make_81 ?_
              refine q_iload (pc := 84) C dX8_make_84 0 rfl ?_
              refine q_aald (pc := 86) (k := 31) (n := 2) C (by decide) (by decide) rfl dX8_make_86 ?_
              refine q_iload_n (pc := 87) C dX8_make_87 rfl 1 rfl ?_
              obtain ⟨S44, h45, hm⟩ := o1_some hm
              refine q_callU (pc := 88) (k := 31) (As := [.int r1]) (rest := []) (T := TX3) (owner := "Tessera$Store") (x := ⟨"Tessera$Store", "placeNew", "(I)V"⟩) C (c_Mar_placeNew hi h45) (by decide) (ce_31 _ _ _) (ci := 3) rfl (Or.inr (Or.inl (by decide))) tw_221 tw_222 tw_403 tw_402 tw_19 tw_404 (nA := 1) (by decide +kernel) rfl (by decide) (Nat.le_of_ble_eq_true rfl) rfl dX8_make_88 ?_
              refine q_iinc (pc := 91) (k := 0) (v := (3 : Int32)) (lv' := [(4, .int (3 : Int32)), (3, .int r1), (0, .ref (gad G 0)), (1, .int a1), (2, .int a2)]) C dX8_make_91 rfl (by decide) (by decide) rfl ?_
              refine q_goto (pc := 94) (tgt := 61) C dX8_make_94 (by decide) ?_
              refine q_iload (pc := 61) C dX8_make_61 0 rfl ?_
              refine q_iconst (pc := 63) (v := (4 : Int32)) C dX8_make_63 (by decide) ?_
              refine q_icmp_ge (pc := 64) (tgt := 97) C dX8_make_64 (by decide) (fun c => absurd c (by decide)) (fun _ => ?_)
              refine q_aload_n (pc := 67) C dX8_make_67 rfl 2 rfl ?_
              refine q_get (pc := 68) (T := TX8) (v := .ref (gad G 58)) C (by decide) (ce_0 _ _ _) (ci := 6) rfl inlX8 (j := 4) (by decide) rfl tw_31 (Or.inl rfl) dX8_make_68 ?_
              refine q_iload (pc := 71) C dX8_make_71 0 rfl ?_
              refine q_aald (pc := 73) (k := 42) (n := 3) C (by decide) (by decide) rfl dX8_make_73 ?_
              refine q_get (pc := 74) (T := TX1) (v := .int (S44 42 6)) C (by decide) (ce_42 _ _ _) (ci := 1) rfl inlX1 (j := 6) (by decide) rfl tw_199 (Or.inl rfl) dX8_make_74 ?_
              refine q_if_ne (pc := 77) (tgt := 91) C dX8_make_77 (by decide) (fun c18 => ?_) (fun c18 => ?_)
              · replace hm := hm_f c18 hm
                refine q_iinc (pc := 91) (k := 0) (v := (4 : Int32)) (lv' := [(4, .int (4 : Int32)), (3, .int r1), (0, .ref (gad G 0)), (1, .int a1), (2, .int a2)]) C dX8_make_91 rfl (by decide) (by decide) rfl ?_
                refine q_goto (pc := 94) (tgt := 61) C dX8_make_94 (by decide) ?_
                refine q_iload (pc := 61) C dX8_make_61 0 rfl ?_
                refine q_iconst (pc := 63) (v := (4 : Int32)) C dX8_make_63 (by decide) ?_
                refine q_icmp_ge (pc := 64) (tgt := 97) C dX8_make_64 (by decide) (fun _ => ?_) (fun c => absurd c (by decide))
                refine q_aload_n (pc := 97) C dX8_make_97 rfl 2 rfl ?_
                refine q_iload_n (pc := 98) C dX8_make_98 rfl 4 rfl ?_
                refine q_iload_n (pc := 99) C dX8_make_99 rfl 1 rfl ?_
                obtain ⟨r16, S45, h46, hm⟩ := ob_some hm
                refine q_callV (pc := 100) (k := 0) (As := [.int a2, .int r1]) (rest := []) (T := TX8) C (c_Te_nameByRoot hi h46) (by decide) (ce_0 _ _ _) (ci := 6) rfl tw_585 tw_586 tw_587 tw_2 tw_588 (nA := 2) (by decide +kernel) rfl (by decide) (Nat.le_of_ble_eq_true rfl) rfl dX8_make_100 ?_
                refine q_pop (pc := 103) C dX8_make_103 rfl ?_
                refine q_aload_n (pc := 104) C dX8_make_104 rfl 2 rfl ?_
                obtain ⟨S46, h47, hm⟩ := o1_some hm
                refine q_callV (pc := 105) (k := 0) (As := []) (rest := []) (T := TX8) C (c_Te_closePauses hi h47) (by decide) (ce_0 _ _ _) (ci := 6) rfl tw_633 tw_634 tw_635 tw_2 tw_636 (nA := 0) (by decide +kernel) rfl (by decide) (Nat.le_of_ble_eq_true rfl) rfl dX8_make_105 ?_
                refine q_iload_n (pc := 108) C dX8_make_108 rfl 1 rfl ?_
                cases hm
                exact q_iret (pc := 109) C dX8_make_109
              · replace hm := hm_t c18 hm
                refine q_aload_n (pc := 80) C dX8_make_80 rfl 2 rfl ?_
                refine q_get (pc := 81) (T := TX8) (v := .ref (gad G 58)) C (by decide) (ce_0 _ _ _) (ci := 6) rfl inlX8 (j := 4) (by decide) rfl tw_31 (Or.inl rfl) dX8_make_81 ?_
                refine q_iload (pc := 84) C dX8_make_84 0 rfl ?_
                refine q_aald (pc := 86) (k := 42) (n := 3) C (by decide) (by decide) rfl dX8_make_86 ?_
                refine q_iload_n (pc := 87) C dX8_make_87 rfl 1 rfl ?_
                obtain ⟨S47, h48, hm⟩ := o1_some hm
                refine q_callU (pc := 88) (k := 42) (As := [.int r1]) (rest := []) (T := TX1) (owner := "Tessera$Store") (x := ⟨"Tessera$Store", "placeNew", "(I)V"⟩) C (c_Cou_placeNew hi h48) (by decide) (ce_42 _ _ _) (ci := 1) rfl (Or.inr (Or.inl (by decide))) tw_221 tw_222 tw_309 tw_308 tw_22 tw_310 (nA := 1) (by decide +kernel) rfl (by decide) (Nat.le_of_ble_eq_true rfl) rfl dX8_make_88 ?_
                refine q_iinc (pc := 91) (k := 0) (v := (4 : Int32)) (lv' := [(4, .int (4 : Int32)), (3, .int r1), (0, .ref (gad G 0)), (1, .int a1), (2, .int a2)]) C dX8_make_91 rfl (by decide) (by decide) rfl ?_
                refine q_goto (pc := 94) (tgt := 61) C dX8_make_94 (by decide) ?_
                refine q_iload (pc := 61) C dX8_make_61 0 rfl ?_
                refine q_iconst (pc := 63) (v := (4 : Int32)) C dX8_make_63 (by decide) ?_
                refine q_icmp_ge (pc := 64) (tgt := 97) C dX8_make_64 (by decide) (fun _ => ?_) (fun c => absurd c (by decide))
                refine q_aload_n (pc := 97) C dX8_make_97 rfl 2 rfl ?_
                refine q_iload_n (pc := 98) C dX8_make_98 rfl 4 rfl ?_
                refine q_iload_n (pc := 99) C dX8_make_99 rfl 1 rfl ?_
                obtain ⟨r17, S48, h49, hm⟩ := ob_some hm
                refine q_callV (pc := 100) (k := 0) (As := [.int a2, .int r1]) (rest := []) (T := TX8) C (c_Te_nameByRoot hi h49) (by decide) (ce_0 _ _ _) (ci := 6) rfl tw_585 tw_586 tw_587 tw_2 tw_588 (nA := 2) (by decide +kernel) rfl (by decide) (Nat.le_of_ble_eq_true rfl) rfl dX8_make_100 ?_
                refine q_pop (pc := 103) C dX8_make_103 rfl ?_
                refine q_aload_n (pc := 104) C dX8_make_104 rfl 2 rfl ?_
                obtain ⟨S49, h50, hm⟩ := o1_some hm
                refine q_callV (pc := 105) (k := 0) (As := []) (rest := []) (T := TX8) C (c_Te_closePauses hi h50) (by decide) (ce_0 _ _ _) (ci := 6) rfl tw_633 tw_634 tw_635 tw_2 tw_636 (nA := 0) (by decide +kernel) rfl (by decide) (Nat.le_of_ble_eq_true rfl) rfl dX8_make_105 ?_
                refine q_iload_n (pc := 108) C dX8_make_108 rfl 1 rfl ?_
                cases hm
                exact q_iret (pc := 109) C dX8_make_109
      · replace hm := hm_f c3 hm
        cases hm
    · replace hm := hm_f c2 hm
      cases hm
set_option maxRecDepth 100000 in
theorem c_Te_checkNameable {G : Gx} (hi : qinj (gad G)) {S : St} {a1 : Int32} {zu : Unit} (hm : m_Te_checkNameable S a1 = some zu) : QMet G yX8_checkNameable cX8_checkNameable 2 none 1 21 [.ref (gad G 0), .int a1] S none S := by
  refine q_entry (by decide +kernel) rfl hi (Nat.le_of_ble_eq_true rfl) ?_
  intro X C
  refine q_lv (lv' := [(0, .ref (gad G 0)), (1, .int a1)]) [0, 1] rfl ?_
  unfold m_Te_checkNameable at hm
  refine q_iload_n (pc := 0) C dX8_checkNameable_0 rfl 1 rfl ?_
  refine q_iconst (pc := 1) (v := (-1 : Int32)) C dX8_checkNameable_1 (by decide) ?_
  refine q_icmp_eq (pc := 2) (tgt := 27) C dX8_checkNameable_2 (by decide) (fun c1 => ?_) (fun c1 => ?_)
  · replace hm := hm_t c1 hm
    cases hm
    exact q_vret (pc := 27) C dX8_checkNameable_27
  · replace hm := hm_f c1 hm
    refine q_aload_n (pc := 5) C dX8_checkNameable_5 rfl 0 rfl ?_
    refine q_get (pc := 6) (T := TX8) (v := .ref (gad G 1)) C (by decide) (ce_0 _ _ _) (ci := 6) rfl inlX8 (j := 0) (by decide) rfl tw_27 (Or.inl rfl) dX8_checkNameable_6 ?_
    refine q_iload_n (pc := 9) C dX8_checkNameable_9 rfl 1 rfl ?_
    obtain ⟨r1, h1, hm⟩ := o1_some hm
    refine q_callV (pc := 10) (k := 1) (As := [.int a1]) (rest := []) (T := TX2) C (c_Gr_isReached hi h1) (by decide) (ce_1 _ _ _) (ci := 2) rfl tw_657 tw_526 tw_527 tw_13 tw_528 (nA := 1) (by decide +kernel) rfl (by decide) (Nat.le_of_ble_eq_true rfl) rfl dX8_checkNameable_10 ?_
    refine q_if_ne (pc := 13) (tgt := 27) C dX8_checkNameable_13 (by decide) (fun c2 => ?_) (fun c2 => ?_)
    · replace hm := hm_f c2 hm
      cases hm
      exact q_vret (pc := 27) C dX8_checkNameable_27
    · replace hm := hm_t c2 hm
      cases hm
set_option maxRecDepth 100000 in
theorem c_Te_root {G : Gx} (hi : qinj (gad G)) {S : St} {a1 : Int32} {a2 : Int32} {zr : Int32} {zS : St} (hm : m_Te_root S a1 a2 = some (zr, zS)) : QMet G yX8_root cX8_root 4 (some .int) 6 136 [.ref (gad G 0), .int a1, .int a2] S (some (.int zr)) zS := by
  refine q_entry (by decide +kernel) rfl hi (Nat.le_of_ble_eq_true rfl) ?_
  intro X C
  refine q_lv (lv' := [(0, .ref (gad G 0)), (1, .int a1), (2, .int a2)]) [0, 1, 2] rfl ?_
  unfold m_Te_root at hm
  refine q_iload_n (pc := 0) C dX8_root_0 rfl 1 rfl ?_
  obtain ⟨u1, h1, hm⟩ := o1_some hm
  refine q_callS (pc := 1) (As := [.int a1]) (rest := []) C (c_Te_checkRoot hi h1) tw_200 tw_201 tw_2 tw_202 (nA := 1) (by decide +kernel) rfl (by decide) (Nat.le_of_ble_eq_true rfl) rfl dX8_root_1 ?_
  refine q_aload_n (pc := 4) C dX8_root_4 rfl 0 rfl ?_
  refine q_iload_n (pc := 5) C dX8_root_5 rfl 2 rfl ?_
  obtain ⟨u2, h2, hm⟩ := o1_some hm
  refine q_callV (pc := 6) (k := 0) (As := [.int a2]) (rest := []) (T := TX8) C (c_Te_checkNameable hi h2) (by decide) (ce_0 _ _ _) (ci := 6) rfl tw_653 tw_654 tw_655 tw_2 tw_656 (nA := 1) (by decide +kernel) rfl (by decide) (Nat.le_of_ble_eq_true rfl) rfl dX8_root_6 ?_
  refine q_aload_n (pc := 9) C dX8_root_9 rfl 0 rfl ?_
  obtain ⟨S1, h3, hm⟩ := o1_some hm
  refine q_callV (pc := 10) (k := 0) (As := []) (rest := []) (T := TX8) C (c_Te_openPauses hi h3) (by decide) (ce_0 _ _ _) (ci := 6) rfl tw_205 tw_206 tw_207 tw_2 tw_208 (nA := 0) (by decide +kernel) rfl (by decide) (Nat.le_of_ble_eq_true rfl) rfl dX8_root_10 ?_
  refine q_aload_n (pc := 13) C dX8_root_13 rfl 0 rfl ?_
  refine q_iload_n (pc := 14) C dX8_root_14 rfl 1 rfl ?_
  refine q_iload_n (pc := 15) C dX8_root_15 rfl 2 rfl ?_
  obtain ⟨r1, S2, h4, hm⟩ := ob_some hm
  refine q_callV (pc := 16) (k := 0) (As := [.int a1, .int a2]) (rest := []) (T := TX8) C (c_Te_nameByRoot hi h4) (by decide) (ce_0 _ _ _) (ci := 6) rfl tw_585 tw_586 tw_587 tw_2 tw_588 (nA := 2) (by decide +kernel) rfl (by decide) (Nat.le_of_ble_eq_true rfl) rfl dX8_root_16 ?_
  refine q_istore_n (pc := 19) (lv' := [(3, .int r1), (0, .ref (gad G 0)), (1, .int a1), (2, .int a2)]) C dX8_root_19 rfl (by decide) rfl ?_
  refine q_aload_n (pc := 20) C dX8_root_20 rfl 1 rfl ?_
  obtain ⟨S3, h5, hm⟩ := o1_some hm
  refine q_callV (pc := 21) (k := 0) (As := []) (rest := []) (T := TX8) C (c_Te_closePauses hi h5) (by decide) (ce_0 _ _ _) (ci := 6) rfl tw_633 tw_634 tw_635 tw_2 tw_636 (nA := 0) (by decide +kernel) rfl (by decide) (Nat.le_of_ble_eq_true rfl) rfl dX8_root_21 ?_
  refine q_iload_n (pc := 24) C dX8_root_24 rfl 0 rfl ?_
  cases hm
  exact q_iret (pc := 25) C dX8_root_25
set_option maxRecDepth 100000 in
theorem c_Te_checkThing {G : Gx} (hi : qinj (gad G)) {S : St} {a1 : Int32} {zu : Unit} (hm : m_Te_checkThing S a1 = some zu) : QMet G yX8_checkThing cX8_checkThing 2 none 1 21 [.ref (gad G 0), .int a1] S none S := by
  refine q_entry (by decide +kernel) rfl hi (Nat.le_of_ble_eq_true rfl) ?_
  intro X C
  refine q_lv (lv' := [(0, .ref (gad G 0)), (1, .int a1)]) [0, 1] rfl ?_
  unfold m_Te_checkThing at hm
  refine q_aload_n (pc := 0) C dX8_checkThing_0 rfl 0 rfl ?_
  refine q_get (pc := 1) (T := TX8) (v := .ref (gad G 1)) C (by decide) (ce_0 _ _ _) (ci := 6) rfl inlX8 (j := 0) (by decide) rfl tw_27 (Or.inl rfl) dX8_checkThing_1 ?_
  refine q_iload_n (pc := 4) C dX8_checkThing_4 rfl 1 rfl ?_
  obtain ⟨r1, h1, hm⟩ := o1_some hm
  refine q_callV (pc := 5) (k := 1) (As := [.int a1]) (rest := []) (T := TX2) C (c_Gr_isThing hi h1) (by decide) (ce_1 _ _ _) (ci := 2) rfl tw_666 tw_300 tw_301 tw_13 tw_302 (nA := 1) (by decide +kernel) rfl (by decide) (Nat.le_of_ble_eq_true rfl) rfl dX8_checkThing_5 ?_
  refine q_if_ne (pc := 8) (tgt := 22) C dX8_checkThing_8 (by decide) (fun c1 => ?_) (fun c1 => ?_)
  · replace hm := hm_f c1 hm
    cases hm
    exact q_vret (pc := 22) C dX8_checkThing_22
  · replace hm := hm_t c1 hm
    cases hm
set_option maxRecDepth 100000 in
theorem c_Te_checkWhat {G : Gx} (hi : qinj (gad G)) {S : St} {a0 : Int32} {a1 : Int32} {zu : Unit} (hm : m_Te_checkWhat S a0 a1 = some zu) : QMet G yX8_checkWhat cX8_checkWhat 2 none 0 0 [.int a0, .int a1] S none S := by
  refine q_entry (by decide +kernel) rfl hi (Nat.le_of_ble_eq_true rfl) ?_
  intro X C
  refine q_lv (lv' := [(0, .int a0), (1, .int a1)]) [0, 1] rfl ?_
  unfold m_Te_checkWhat at hm
  refine q_iload_n (pc := 0) C dX8_checkWhat_0 rfl 0 rfl ?_
  refine q_if_lt (pc := 1) (tgt := 9) C dX8_checkWhat_1 (by decide) (fun c1 => ?_) (fun c1 => ?_)
  · replace hm := hm_t c1 hm
    cases hm
  · replace hm := hm_f c1 hm
    refine q_iload_n (pc := 4) C dX8_checkWhat_4 rfl 0 rfl ?_
    refine q_iload_n (pc := 5) C dX8_checkWhat_5 rfl 1 rfl ?_
    refine q_icmp_le (pc := 6) (tgt := 20) C dX8_checkWhat_6 (by decide) (fun c2 => ?_) (fun c2 => ?_)
    · replace hm := hm_t c2 hm
      cases hm
      exact q_vret (pc := 20) C dX8_checkWhat_20
    · replace hm := hm_f c2 hm
      cases hm
set_option maxRecDepth 100000 in
theorem c_Te_asNumber {G : Gx} (hi : qinj (gad G)) {S : St} {a0 : Int32} {zr : Int32} (hm : m_Te_asNumber S a0 = some zr) : QMet G yX8_asNumber cX8_asNumber 1 (some .int) 0 0 [.int a0] S (some (.int zr)) S := by
  refine q_entry (by decide +kernel) rfl hi (Nat.le_of_ble_eq_true rfl) ?_
  intro X C
  refine q_lv (lv' := [(0, .int a0)]) [0] rfl ?_
  unfold m_Te_asNumber at hm
  refine q_iload_n (pc := 0) C dX8_asNumber_0 rfl 0 rfl ?_
  refine q_if_eq (pc := 1) (tgt := 8) C dX8_asNumber_1 (by decide) (fun c1 => ?_) (fun c1 => ?_)
  · replace hm := hm_t c1 hm
    refine q_iconst (pc := 8) (v := (0 : Int32)) C dX8_asNumber_8 (by decide) ?_
    cases hm
    exact q_iret (pc := 9) C dX8_asNumber_9
  · replace hm := hm_f c1 hm
    refine q_iconst (pc := 4) (v := (1 : Int32)) C dX8_asNumber_4 (by decide) ?_
    refine q_goto (pc := 5) (tgt := 9) C dX8_asNumber_5 (by decide) ?_
    cases hm
    exact q_iret (pc := 9) C dX8_asNumber_9
set_option maxRecDepth 100000 in
theorem c_Te_ofThing {G : Gx} (hi : qinj (gad G)) {S : St} {a1 : Int32} {a2 : Int32} {zr : Int32} (hm : m_Te_ofThing S a1 a2 = some zr) : QMet G yX8_ofThing cX8_ofThing 3 (some .int) 2 42 [.ref (gad G 0), .int a1, .int a2] S (some (.int zr)) S := by
  refine q_entry (by decide +kernel) rfl hi (Nat.le_of_ble_eq_true rfl) ?_
  intro X C
  refine q_lv (lv' := [(0, .ref (gad G 0)), (1, .int a1), (2, .int a2)]) [0, 1, 2] rfl ?_
  unfold m_Te_ofThing at hm
  refine q_aload_n (pc := 0) C dX8_ofThing_0 rfl 0 rfl ?_
  refine q_iload_n (pc := 1) C dX8_ofThing_1 rfl 1 rfl ?_
  obtain ⟨u1, h1, hm⟩ := o1_some hm
  refine q_callV (pc := 2) (k := 0) (As := [.int a1]) (rest := []) (T := TX8) C (c_Te_checkThing hi h1) (by decide) (ce_0 _ _ _) (ci := 6) rfl tw_662 tw_663 tw_664 tw_2 tw_665 (nA := 1) (by decide +kernel) rfl (by decide) (Nat.le_of_ble_eq_true rfl) rfl dX8_ofThing_2 ?_
  refine q_iload_n (pc := 5) C dX8_ofThing_5 rfl 2 rfl ?_
  refine q_iconst (pc := 6) (v := (2 : Int32)) C dX8_ofThing_6 (by decide) ?_
  obtain ⟨u2, h2, hm⟩ := o1_some hm
  refine q_callS (pc := 7) (As := [.int a2, .int (2 : Int32)]) (rest := []) C (c_Te_checkWhat hi h2) tw_667 tw_668 tw_2 tw_669 (nA := 2) (by decide +kernel) rfl (by decide) (Nat.le_of_ble_eq_true rfl) rfl dX8_ofThing_7 ?_
  refine q_iload_n (pc := 10) C dX8_ofThing_10 rfl 2 rfl ?_
  by_cases c1 : a2 = (0 : Int32)
  · replace hm := hm_t c1 hm
    refine q_lookup (pc := 11) (tgt := 36) (off := 25) C dX8_ofThing_11 (by decide) (by rw [c1]; decide) (by decide) ?_
    refine q_aload_n (pc := 36) C dX8_ofThing_36 rfl 0 rfl ?_
    refine q_get (pc := 37) (T := TX8) (v := .ref (gad G 1)) C (by decide) (ce_0 _ _ _) (ci := 6) rfl inlX8 (j := 0) (by decide) rfl tw_27 (Or.inl rfl) dX8_ofThing_37 ?_
    refine q_iload_n (pc := 40) C dX8_ofThing_40 rfl 1 rfl ?_
    obtain ⟨r1, h3, hm⟩ := o1_some hm
    refine q_callV (pc := 41) (k := 1) (As := [.int a1]) (rest := []) (T := TX2) C (c_Gr_fieldsOf hi h3) (by decide) (ce_1 _ _ _) (ci := 2) rfl tw_670 tw_279 tw_280 tw_13 tw_281 (nA := 1) (by decide +kernel) rfl (by decide) (Nat.le_of_ble_eq_true rfl) rfl dX8_ofThing_41 ?_
    cases hm
    exact q_iret (pc := 44) C dX8_ofThing_44
  replace hm := hm_f c1 hm
  by_cases c2 : a2 = (1 : Int32)
  · replace hm := hm_t c2 hm
    refine q_lookup (pc := 11) (tgt := 45) (off := 34) C dX8_ofThing_11 (by decide) (by rw [c2]; decide) (by decide) ?_
    refine q_aload_n (pc := 45) C dX8_ofThing_45 rfl 0 rfl ?_
    refine q_get (pc := 46) (T := TX8) (v := .ref (gad G 1)) C (by decide) (ce_0 _ _ _) (ci := 6) rfl inlX8 (j := 0) (by decide) rfl tw_27 (Or.inl rfl) dX8_ofThing_46 ?_
    refine q_iload_n (pc := 49) C dX8_ofThing_49 rfl 1 rfl ?_
    obtain ⟨r2, h4, hm⟩ := o1_some hm
    refine q_callV (pc := 50) (k := 1) (As := [.int a1]) (rest := []) (T := TX2) C (c_Gr_isReached hi h4) (by decide) (ce_1 _ _ _) (ci := 2) rfl tw_657 tw_526 tw_527 tw_13 tw_528 (nA := 1) (by decide +kernel) rfl (by decide) (Nat.le_of_ble_eq_true rfl) rfl dX8_ofThing_50 ?_
    obtain ⟨r3, h5, hm⟩ := o1_some hm
    refine q_callS (pc := 53) (As := [.int r2]) (rest := []) C (c_Te_asNumber hi h5) tw_671 tw_672 tw_2 tw_673 (nA := 1) (by decide +kernel) rfl (by decide) (Nat.le_of_ble_eq_true rfl) rfl dX8_ofThing_53 ?_
    cases hm
    exact q_iret (pc := 56) C dX8_ofThing_56
  replace hm := hm_f c2 hm
  refine q_lookup (pc := 11) (tgt := 57) (off := 46) C dX8_ofThing_11 (by decide) (by show Op.lookupswitch.offset [(0, 25), (1, 34)] 46 (a2).toInt = 46; rw [lv_osw (a := 0) c1 (by decide)]; rw [lv_osw (a := 1) c2 (by decide)]; rfl) (by decide) ?_
  refine q_aload_n (pc := 57) C dX8_ofThing_57 rfl 0 rfl ?_
  refine q_get (pc := 58) (T := TX8) (v := .ref (gad G 1)) C (by decide) (ce_0 _ _ _) (ci := 6) rfl inlX8 (j := 0) (by decide) rfl tw_27 (Or.inl rfl) dX8_ofThing_58 ?_
  refine q_iload_n (pc := 61) C dX8_ofThing_61 rfl 1 rfl ?_
  obtain ⟨r4, h6, hm⟩ := o1_some hm
  refine q_callV (pc := 62) (k := 1) (As := [.int a1]) (rest := []) (T := TX2) C (c_Gr_distanceOf hi h6) (by decide) (ce_1 _ _ _) (ci := 2) rfl tw_674 tw_605 tw_606 tw_13 tw_607 (nA := 1) (by decide +kernel) rfl (by decide) (Nat.le_of_ble_eq_true rfl) rfl dX8_ofThing_62 ?_
  cases hm
  exact q_iret (pc := 65) C dX8_ofThing_65
set_option maxRecDepth 100000 in
theorem c_Gr_hasField {G : Gx} (hi : qinj (gad G)) {S : St} {a1 : Int32} {a2 : Int32} {zr : Int32} (hm : m_Gr_hasField S a1 a2 = some zr) : QMet G yX2_hasField cX2_hasField 3 (some .boolean) 0 0 [.ref (gad G 1), .int a1, .int a2] S (some (.int zr)) S := by
  refine q_entry (by decide +kernel) rfl hi (Nat.le_of_ble_eq_true rfl) ?_
  intro X C
  refine q_lv (lv' := [(0, .ref (gad G 1)), (1, .int a1), (2, .int a2)]) [0, 1, 2] rfl ?_
  unfold m_Gr_hasField at hm
  refine q_iload_n (pc := 0) C dX2_hasField_0 rfl 1 rfl ?_
  refine q_if_lt (pc := 1) (tgt := 30) C dX2_hasField_1 (by decide) (fun c1 => ?_) (fun c1 => ?_)
  · replace hm := hm_t c1 hm
    refine q_iconst (pc := 30) (v := (0 : Int32)) C dX2_hasField_30 (by decide) ?_
    cases hm
    exact q_zret (pc := 31) C (by decide) dX2_hasField_31
  · replace hm := hm_f c1 hm
    refine q_iload_n (pc := 4) C dX2_hasField_4 rfl 1 rfl ?_
    refine q_aload_n (pc := 5) C dX2_hasField_5 rfl 0 rfl ?_
    refine q_get (pc := 6) (T := TX2) (v := .int (S 1 6)) C (by decide) (ce_1 _ _ _) (ci := 2) rfl inlX2 (j := 6) (by decide) rfl tw_118 (Or.inl rfl) dX2_hasField_6 ?_
    refine q_icmp_ge (pc := 9) (tgt := 30) C dX2_hasField_9 (by decide) (fun c2 => ?_) (fun c2 => ?_)
    · replace hm := hm_t c2 hm
      refine q_iconst (pc := 30) (v := (0 : Int32)) C dX2_hasField_30 (by decide) ?_
      cases hm
      exact q_zret (pc := 31) C (by decide) dX2_hasField_31
    · replace hm := hm_f c2 hm
      refine q_iload_n (pc := 12) C dX2_hasField_12 rfl 2 rfl ?_
      refine q_if_lt (pc := 13) (tgt := 30) C dX2_hasField_13 (by decide) (fun c3 => ?_) (fun c3 => ?_)
      · replace hm := hm_t c3 hm
        refine q_iconst (pc := 30) (v := (0 : Int32)) C dX2_hasField_30 (by decide) ?_
        cases hm
        exact q_zret (pc := 31) C (by decide) dX2_hasField_31
      · replace hm := hm_f c3 hm
        refine q_iload_n (pc := 16) C dX2_hasField_16 rfl 2 rfl ?_
        refine q_aload_n (pc := 17) C dX2_hasField_17 rfl 0 rfl ?_
        refine q_get (pc := 18) (T := TX2) (v := .ref (gad G 2)) C (by decide) (ce_1 _ _ _) (ci := 2) rfl inlX2 (j := 0) (by decide) rfl tw_37 (Or.inl rfl) dX2_hasField_18 ?_
        refine q_iload_n (pc := 21) C dX2_hasField_21 rfl 1 rfl ?_
        obtain ⟨b1, hm⟩ := oi_some hm
        refine q_iald (pc := 22) C (by decide) (ce_2 _ _ _) (ty_2 _) b1 dX2_hasField_22 ?_
        refine q_icmp_ge (pc := 23) (tgt := 30) C dX2_hasField_23 (by decide) (fun c4 => ?_) (fun c4 => ?_)
        · replace hm := hm_t c4 hm
          refine q_iconst (pc := 30) (v := (0 : Int32)) C dX2_hasField_30 (by decide) ?_
          cases hm
          exact q_zret (pc := 31) C (by decide) dX2_hasField_31
        · replace hm := hm_f c4 hm
          refine q_iconst (pc := 26) (v := (1 : Int32)) C dX2_hasField_26 (by decide) ?_
          refine q_goto (pc := 27) (tgt := 31) C dX2_hasField_27 (by decide) ?_
          cases hm
          exact q_zret (pc := 31) C (by decide) dX2_hasField_31
set_option maxRecDepth 100000 in
theorem c_Gr_nameByField {G : Gx} (hi : qinj (gad G)) {S : St} {a1 : Int32} {a2 : Int32} {a3 : Int32} {zS : St} (hm : m_Gr_nameByField S a1 a2 a3 = some zS) : QMet G yX2_nameByField cX2_nameByField 4 none 4 89 [.ref (gad G 1), .int a1, .int a2, .int a3] S none zS := by
  refine q_entry (by decide +kernel) rfl hi (Nat.le_of_ble_eq_true rfl) ?_
  intro X C
  refine q_lv (lv' := [(0, .ref (gad G 1)), (1, .int a1), (2, .int a2), (3, .int a3)]) [0, 1, 2, 3] rfl ?_
  unfold m_Gr_nameByField at hm
  refine q_aload_n (pc := 0) C dX2_nameByField_0 rfl 0 rfl ?_
  refine q_iload_n (pc := 1) C dX2_nameByField_1 rfl 1 rfl ?_
  refine q_iload_n (pc := 2) C dX2_nameByField_2 rfl 2 rfl ?_
  obtain ⟨r1, h1, hm⟩ := o1_some hm
  refine q_callV (pc := 3) (k := 1) (As := [.int a1, .int a2]) (rest := []) (T := TX2) C (c_Gr_hasField hi h1) (by decide) (ce_1 _ _ _) (ci := 2) rfl tw_688 tw_680 tw_681 tw_13 tw_682 (nA := 2) (by decide +kernel) rfl (by decide) (Nat.le_of_ble_eq_true rfl) rfl dX2_nameByField_3 ?_
  refine q_if_eq (pc := 6) (tgt := 24) C dX2_nameByField_6 (by decide) (fun c1 => ?_) (fun c1 => ?_)
  · replace hm := hm_t c1 hm
    cases hm
    exact q_vret (pc := 24) C dX2_nameByField_24
  · replace hm := hm_f c1 hm
    refine q_aload_n (pc := 9) C dX2_nameByField_9 rfl 0 rfl ?_
    refine q_get (pc := 10) (T := TX2) (v := .ref (gad G 3)) C (by decide) (ce_1 _ _ _) (ci := 2) rfl inlX2 (j := 1) (by decide) rfl tw_38 (Or.inl rfl) dX2_nameByField_10 ?_
    refine q_iload_n (pc := 13) C dX2_nameByField_13 rfl 1 rfl ?_
    refine q_iconst (pc := 14) (v := (3 : Int32)) C dX2_nameByField_14 (by decide) ?_
    refine q_imul (pc := 15) C dX2_nameByField_15 ?_
    refine q_iload_n (pc := 16) C dX2_nameByField_16 rfl 2 rfl ?_
    refine q_iadd (pc := 17) C dX2_nameByField_17 ?_
    refine q_iload_n (pc := 18) C dX2_nameByField_18 rfl 3 rfl ?_
    obtain ⟨b1, hm⟩ := oi_some hm
    refine q_iast (pc := 19) C (by decide) (fun _ => ce_3 _ _ _) (ty_3 _) b1 dX2_nameByField_19 ?_
    refine q_aload_n (pc := 20) C dX2_nameByField_20 rfl 0 rfl ?_
    obtain ⟨S1, h2, hm⟩ := o1_some hm
    refine q_callV (pc := 21) (k := 1) (As := []) (rest := []) (T := TX2) C (c_Gr_measure hi h2) (by decide) (ce_1 _ _ _) (ci := 2) rfl tw_594 tw_595 tw_596 tw_13 tw_597 (nA := 0) (by decide +kernel) rfl (by decide) (Nat.le_of_ble_eq_true rfl) rfl dX2_nameByField_21 ?_
    cases hm
    exact q_vret (pc := 24) C dX2_nameByField_24
set_option maxRecDepth 100000 in
theorem c_Te_set {G : Gx} (hi : qinj (gad G)) {S : St} {a1 : Int32} {a2 : Int32} {a3 : Int32} {zr : Int32} {zS : St} (hm : m_Te_set S a1 a2 a3 = some (zr, zS)) : QMet G yX8_set cX8_set 5 (some .int) 5 113 [.ref (gad G 0), .int a1, .int a2, .int a3] S (some (.int zr)) zS := by
  refine q_entry (by decide +kernel) rfl hi (Nat.le_of_ble_eq_true rfl) ?_
  intro X C
  refine q_lv (lv' := [(0, .ref (gad G 0)), (1, .int a1), (2, .int a2), (3, .int a3)]) [0, 1, 2, 3] rfl ?_
  unfold m_Te_set at hm
  refine q_aload_n (pc := 0) C dX8_set_0 rfl 0 rfl ?_
  refine q_get (pc := 1) (T := TX8) (v := .ref (gad G 1)) C (by decide) (ce_0 _ _ _) (ci := 6) rfl inlX8 (j := 0) (by decide) rfl tw_27 (Or.inl rfl) dX8_set_1 ?_
  refine q_iload_n (pc := 4) C dX8_set_4 rfl 1 rfl ?_
  obtain ⟨r1, h1, hm⟩ := o1_some hm
  refine q_callV (pc := 5) (k := 1) (As := [.int a1]) (rest := []) (T := TX2) C (c_Gr_isReached hi h1) (by decide) (ce_1 _ _ _) (ci := 2) rfl tw_657 tw_526 tw_527 tw_13 tw_528 (nA := 1) (by decide +kernel) rfl (by decide) (Nat.le_of_ble_eq_true rfl) rfl dX8_set_5 ?_
  refine q_if_eq (pc := 8) (tgt := 23) C dX8_set_8 (by decide) (fun c1 => ?_) (fun c1 => ?_)
  · replace hm := hm_t c1 hm
    cases hm
  · replace hm := hm_f c1 hm
    refine q_aload_n (pc := 11) C dX8_set_11 rfl 0 rfl ?_
    refine q_get (pc := 12) (T := TX8) (v := .ref (gad G 1)) C (by decide) (ce_0 _ _ _) (ci := 6) rfl inlX8 (j := 0) (by decide) rfl tw_27 (Or.inl rfl) dX8_set_12 ?_
    refine q_iload_n (pc := 15) C dX8_set_15 rfl 1 rfl ?_
    refine q_iload_n (pc := 16) C dX8_set_16 rfl 2 rfl ?_
    obtain ⟨r2, h2, hm⟩ := o1_some hm
    refine q_callV (pc := 17) (k := 1) (As := [.int a1, .int a2]) (rest := []) (T := TX2) C (c_Gr_hasField hi h2) (by decide) (ce_1 _ _ _) (ci := 2) rfl tw_679 tw_680 tw_681 tw_13 tw_682 (nA := 2) (by decide +kernel) rfl (by decide) (Nat.le_of_ble_eq_true rfl) rfl dX8_set_17 ?_
    refine q_if_ne (pc := 20) (tgt := 33) C dX8_set_20 (by decide) (fun c2 => ?_) (fun c2 => ?_)
    · replace hm := hm_f c2 hm
      refine q_aload_n (pc := 33) C dX8_set_33 rfl 0 rfl ?_
      refine q_iload_n (pc := 34) C dX8_set_34 rfl 3 rfl ?_
      obtain ⟨u1, h3, hm⟩ := o1_some hm
      refine q_callV (pc := 35) (k := 0) (As := [.int a3]) (rest := []) (T := TX8) C (c_Te_checkNameable hi h3) (by decide) (ce_0 _ _ _) (ci := 6) rfl tw_653 tw_654 tw_655 tw_2 tw_656 (nA := 1) (by decide +kernel) rfl (by decide) (Nat.le_of_ble_eq_true rfl) rfl dX8_set_35 ?_
      refine q_aload_n (pc := 38) C dX8_set_38 rfl 0 rfl ?_
      obtain ⟨S1, h4, hm⟩ := o1_some hm
      refine q_callV (pc := 39) (k := 0) (As := []) (rest := []) (T := TX8) C (c_Te_openPauses hi h4) (by decide) (ce_0 _ _ _) (ci := 6) rfl tw_205 tw_206 tw_207 tw_2 tw_208 (nA := 0) (by decide +kernel) rfl (by decide) (Nat.le_of_ble_eq_true rfl) rfl dX8_set_39 ?_
      refine q_aload_n (pc := 42) C dX8_set_42 rfl 0 rfl ?_
      refine q_get (pc := 43) (T := TX8) (v := .ref (gad G 1)) C (by decide) (ce_0 _ _ _) (ci := 6) rfl inlX8 (j := 0) (by decide) rfl tw_27 (Or.inl rfl) dX8_set_43 ?_
      refine q_iload_n (pc := 46) C dX8_set_46 rfl 1 rfl ?_
      refine q_iload_n (pc := 47) C dX8_set_47 rfl 2 rfl ?_
      obtain ⟨r3, h5, hm⟩ := o1_some hm
      refine q_callV (pc := 48) (k := 1) (As := [.int a1, .int a2]) (rest := []) (T := TX2) C (c_Gr_nameOf hi h5) (by decide) (ce_1 _ _ _) (ci := 2) rfl tw_683 tw_283 tw_284 tw_13 tw_285 (nA := 2) (by decide +kernel) rfl (by decide) (Nat.le_of_ble_eq_true rfl) rfl dX8_set_48 ?_
      refine q_istore (pc := 51) (lv' := [(4, .int r3), (0, .ref (gad G 0)), (1, .int a1), (2, .int a2), (3, .int a3)]) C dX8_set_51 (by decide) rfl ?_
      refine q_iload (pc := 53) C dX8_set_53 0 rfl ?_
      refine q_iload_n (pc := 55) C dX8_set_55 rfl 4 rfl ?_
      refine q_icmp_eq (pc := 56) (tgt := 77) C dX8_set_56 (by decide) (fun c3 => ?_) (fun c3 => ?_)
      · replace hm := hm_t c3 hm
        refine q_aload_n (pc := 77) C dX8_set_77 rfl 1 rfl ?_
        obtain ⟨S2, h6, hm⟩ := o1_some hm
        refine q_callV (pc := 78) (k := 0) (As := []) (rest := []) (T := TX8) C (c_Te_closePauses hi h6) (by decide) (ce_0 _ _ _) (ci := 6) rfl tw_633 tw_634 tw_635 tw_2 tw_636 (nA := 0) (by decide +kernel) rfl (by decide) (Nat.le_of_ble_eq_true rfl) rfl dX8_set_78 ?_
        refine q_iload (pc := 81) C dX8_set_81 0 rfl ?_
        cases hm
        exact q_iret (pc := 83) C dX8_set_83
      · replace hm := hm_f c3 hm
        refine q_aload_n (pc := 59) C dX8_set_59 rfl 1 rfl ?_
        refine q_get (pc := 60) (T := TX8) (v := .ref (gad G 1)) C (by decide) (ce_0 _ _ _) (ci := 6) rfl inlX8 (j := 0) (by decide) rfl tw_27 (Or.inl rfl) dX8_set_60 ?_
        refine q_iload_n (pc := 63) C dX8_set_63 rfl 2 rfl ?_
        refine q_iload_n (pc := 64) C dX8_set_64 rfl 3 rfl ?_
        refine q_iload_n (pc := 65) C dX8_set_65 rfl 4 rfl ?_
        obtain ⟨S3, h7, hm⟩ := o1_some hm
        refine q_callV (pc := 66) (k := 1) (As := [.int a1, .int a2, .int a3]) (rest := []) (T := TX2) C (c_Gr_nameByField hi h7) (by decide) (ce_1 _ _ _) (ci := 2) rfl tw_684 tw_685 tw_686 tw_13 tw_687 (nA := 3) (by decide +kernel) rfl (by decide) (Nat.le_of_ble_eq_true rfl) rfl dX8_set_66 ?_
        refine q_aload_n (pc := 69) C dX8_set_69 rfl 1 rfl ?_
        refine q_iload_n (pc := 70) C dX8_set_70 rfl 2 rfl ?_
        refine q_iload (pc := 71) C dX8_set_71 0 rfl ?_
        refine q_iload_n (pc := 73) C dX8_set_73 rfl 4 rfl ?_
        obtain ⟨S4, h8, hm⟩ := o1_some hm
        refine q_callV (pc := 74) (k := 0) (As := [.int a1, .int r3, .int a3]) (rest := []) (T := TX8) C (c_Te_tellStores hi h8) (by decide) (ce_0 _ _ _) (ci := 6) rfl tw_608 tw_609 tw_610 tw_2 tw_611 (nA := 3) (by decide +kernel) rfl (by decide) (Nat.le_of_ble_eq_true rfl) rfl dX8_set_74 ?_
        refine q_aload_n (pc := 77) C dX8_set_77 rfl 1 rfl ?_
        obtain ⟨S5, h9, hm⟩ := o1_some hm
        refine q_callV (pc := 78) (k := 0) (As := []) (rest := []) (T := TX8) C (c_Te_closePauses hi h9) (by decide) (ce_0 _ _ _) (ci := 6) rfl tw_633 tw_634 tw_635 tw_2 tw_636 (nA := 0) (by decide +kernel) rfl (by decide) (Nat.le_of_ble_eq_true rfl) rfl dX8_set_78 ?_
        refine q_iload (pc := 81) C dX8_set_81 0 rfl ?_
        cases hm
        exact q_iret (pc := 83) C dX8_set_83
    · replace hm := hm_t c2 hm
      cases hm
set_option maxRecDepth 100000 in
theorem c_Te_named {G : Gx} (hi : qinj (gad G)) {S : St} {a1 : Int32} {a2 : Int32} {zr : Int32} (hm : m_Te_named S a1 a2 = some zr) : QMet G yX8_named cX8_named 3 (some .int) 1 22 [.ref (gad G 0), .int a1, .int a2] S (some (.int zr)) S := by
  refine q_entry (by decide +kernel) rfl hi (Nat.le_of_ble_eq_true rfl) ?_
  intro X C
  refine q_lv (lv' := [(0, .ref (gad G 0)), (1, .int a1), (2, .int a2)]) [0, 1, 2] rfl ?_
  unfold m_Te_named at hm
  refine q_aload_n (pc := 0) C dX8_named_0 rfl 0 rfl ?_
  refine q_get (pc := 1) (T := TX8) (v := .ref (gad G 1)) C (by decide) (ce_0 _ _ _) (ci := 6) rfl inlX8 (j := 0) (by decide) rfl tw_27 (Or.inl rfl) dX8_named_1 ?_
  refine q_iload_n (pc := 4) C dX8_named_4 rfl 1 rfl ?_
  refine q_iload_n (pc := 5) C dX8_named_5 rfl 2 rfl ?_
  obtain ⟨r1, h1, hm⟩ := o1_some hm
  refine q_callV (pc := 6) (k := 1) (As := [.int a1, .int a2]) (rest := []) (T := TX2) C (c_Gr_hasField hi h1) (by decide) (ce_1 _ _ _) (ci := 2) rfl tw_679 tw_680 tw_681 tw_13 tw_682 (nA := 2) (by decide +kernel) rfl (by decide) (Nat.le_of_ble_eq_true rfl) rfl dX8_named_6 ?_
  refine q_if_ne (pc := 9) (tgt := 22) C dX8_named_9 (by decide) (fun c1 => ?_) (fun c1 => ?_)
  · replace hm := hm_f c1 hm
    refine q_aload_n (pc := 22) C dX8_named_22 rfl 0 rfl ?_
    refine q_get (pc := 23) (T := TX8) (v := .ref (gad G 1)) C (by decide) (ce_0 _ _ _) (ci := 6) rfl inlX8 (j := 0) (by decide) rfl tw_27 (Or.inl rfl) dX8_named_23 ?_
    refine q_iload_n (pc := 26) C dX8_named_26 rfl 1 rfl ?_
    refine q_iload_n (pc := 27) C dX8_named_27 rfl 2 rfl ?_
    obtain ⟨r2, h2, hm⟩ := o1_some hm
    refine q_callV (pc := 28) (k := 1) (As := [.int a1, .int a2]) (rest := []) (T := TX2) C (c_Gr_nameOf hi h2) (by decide) (ce_1 _ _ _) (ci := 2) rfl tw_683 tw_283 tw_284 tw_13 tw_285 (nA := 2) (by decide +kernel) rfl (by decide) (Nat.le_of_ble_eq_true rfl) rfl dX8_named_28 ?_
    cases hm
    exact q_iret (pc := 31) C dX8_named_31
  · replace hm := hm_t c1 hm
    cases hm
set_option maxRecDepth 100000 in
theorem w_Mar_goOn_L22 {G : Gx} (hi : qinj (gad G)) {X : Cx} (C : QC G X cX3_goOn 3 RX3 4 86 (some .int)) {Q : State → Prop} : ∀ (n : Nat) (S : St) (v1 : Int32) (v2 : Int32) (zS : St), m_Mar_goOn_L22 n S v1 v2 = some zS → QW G X 3 Q 44 [(0, .ref (gad G 31))] [] zS → QW G X 3 Q 22 [(0, .ref (gad G 31)), (1, .int v1), (2, .int v2)] [] S := by
  intro n
  induction n with
  | zero =>
    intro S v1 v2 zS hm kk
    rw [m_Mar_goOn_L22] at hm
    cases hm
  | succ n ih =>
    intro S v1 v2 zS hm kk
    rw [m_Mar_goOn_L22] at hm
    refine q_aload_n (pc := 22) C dX3_goOn_22 rfl 0 rfl ?_
    refine q_get (pc := 23) (T := TX3) (v := .int (S 31 10)) C (by decide) (ce_31 _ _ _) (ci := 3) rfl inlX3 (j := 10) (by decide) rfl tw_159 (Or.inl rfl) dX3_goOn_23 ?_
    refine q_if_eq (pc := 26) (tgt := 44) C dX3_goOn_26 (by decide) (fun c1 => ?_) (fun c1 => ?_)
    · replace hm := hm_t c1 hm
      cases hm
      refine q_lv (lv' := [(0, .ref (gad G 31))]) [0] rfl ?_
      exact kk
    · replace hm := hm_f c1 hm
      refine q_iload_n (pc := 29) C dX3_goOn_29 rfl 2 rfl ?_
      refine q_iload_n (pc := 30) C dX3_goOn_30 rfl 1 rfl ?_
      refine q_icmp_ge (pc := 31) (tgt := 44) C dX3_goOn_31 (by decide) (fun c2 => ?_) (fun c2 => ?_)
      · replace hm := hm_t c2 hm
        cases hm
        refine q_lv (lv' := [(0, .ref (gad G 31))]) [0] rfl ?_
        exact kk
      · replace hm := hm_f c2 hm
        refine q_aload_n (pc := 34) C dX3_goOn_34 rfl 0 rfl ?_
        obtain ⟨S1, h1, hm⟩ := o1_some hm
        refine q_callV (pc := 35) (k := 31) (As := []) (rest := []) (T := TX3) C (c_Mar_step hi h1) (by decide) (ce_31 _ _ _) (ci := 3) rfl tw_444 tw_445 tw_446 tw_19 tw_447 (nA := 0) (by decide +kernel) rfl (by decide) (Nat.le_of_ble_eq_true rfl) rfl dX3_goOn_35 ?_
        refine q_iinc (pc := 38) (k := 2) (v := (v2 + (1 : Int32))) (lv' := [(2, .int (v2 + (1 : Int32))), (0, .ref (gad G 31)), (1, .int v1)]) C dX3_goOn_38 rfl rfl (by decide) rfl ?_
        refine q_goto (pc := 41) (tgt := 22) C dX3_goOn_41 (by decide) ?_
        refine q_lv (lv' := [(0, .ref (gad G 31)), (1, .int v1), (2, .int (v2 + (1 : Int32)))]) [1, 2, 0] rfl ?_
        exact ih _ _ _ _ hm kk
set_option maxRecDepth 100000 in
theorem c_Mar_goOn {G : Gx} (hi : qinj (gad G)) {S : St} {a1 : Int32} {zr : Int32} {zS : St} (hm : m_Mar_goOn S a1 = some (zr, zS)) : QMet G yX3_goOn cX3_goOn 3 (some .int) 4 86 [.ref (gad G 31), .int a1] S (some (.int zr)) zS := by
  refine q_entry (by decide +kernel) rfl hi (Nat.le_of_ble_eq_true rfl) ?_
  intro X C
  refine q_lv (lv' := [(0, .ref (gad G 31)), (1, .int a1)]) [0, 1] rfl ?_
  unfold m_Mar_goOn at hm
  refine q_aload_n (pc := 0) C dX3_goOn_0 rfl 0 rfl ?_
  refine q_get (pc := 1) (T := TX3) (v := .int (S 31 6)) C (by decide) (ce_31 _ _ _) (ci := 3) rfl inlX3 (j := 6) (by decide) rfl tw_704 (Or.inr tw_705) dX3_goOn_1 ?_
  refine q_if_eq (pc := 4) (tgt := 9) C dX3_goOn_4 (by decide) (fun c1 => ?_) (fun c1 => ?_)
  · replace hm := hm_t c1 hm
    refine q_aload_n (pc := 9) C dX3_goOn_9 rfl 0 rfl ?_
    refine q_get (pc := 10) (T := TX3) (v := .int (S 31 10)) C (by decide) (ce_31 _ _ _) (ci := 3) rfl inlX3 (j := 10) (by decide) rfl tw_159 (Or.inl rfl) dX3_goOn_10 ?_
    refine q_if_ne (pc := 13) (tgt := 20) C dX3_goOn_13 (by decide) (fun c2 => ?_) (fun c2 => ?_)
    · replace hm := hm_f c2 hm
      refine q_iconst (pc := 20) (v := (0 : Int32)) C dX3_goOn_20 (by decide) ?_
      refine q_istore_n (pc := 21) (lv' := [(2, .int (0 : Int32)), (0, .ref (gad G 31)), (1, .int a1)]) C dX3_goOn_21 rfl (by decide) rfl ?_
      refine q_lv (lv' := [(0, .ref (gad G 31)), (1, .int a1), (2, .int (0 : Int32))]) [1, 2, 0] rfl ?_
      obtain ⟨S1, h1, hm⟩ := o1_some hm
      refine w_Mar_goOn_L22 hi C 200 _ _ _ _ h1 ?_
      refine q_aload_n (pc := 44) C dX3_goOn_44 rfl 0 rfl ?_
      refine q_get (pc := 45) (T := TX3) (v := .int (S1 31 10)) C (by decide) (ce_31 _ _ _) (ci := 3) rfl inlX3 (j := 10) (by decide) rfl tw_159 (Or.inl rfl) dX3_goOn_45 ?_
      refine q_if_eq (pc := 48) (tgt := 66) C dX3_goOn_48 (by decide) (fun c3 => ?_) (fun c3 => ?_)
      · replace hm := hm_t c3 hm
        refine q_iconst (pc := 66) (v := (-1 : Int32)) C dX3_goOn_66 (by decide) ?_
        cases hm
        exact q_iret (pc := 67) C dX3_goOn_67
      · replace hm := hm_f c3 hm
        refine q_aload_n (pc := 51) C dX3_goOn_51 rfl 0 rfl ?_
        refine q_get (pc := 52) (T := TX3) (v := .ref (gad G 36)) C (by decide) (ce_31 _ _ _) (ci := 3) rfl inlX3 (j := 12) (by decide) rfl tw_74 (Or.inl rfl) dX3_goOn_52 ?_
        refine q_get (pc := 55) (T := TX5) (v := .int (S1 36 2)) C (by decide) (ce_36 _ _ _) (ci := 5) rfl inlX5 (j := 2) (by decide) rfl tw_448 (Or.inl rfl) dX3_goOn_55 ?_
        refine q_aload_n (pc := 58) C dX3_goOn_58 rfl 0 rfl ?_
        refine q_get (pc := 59) (T := TX3) (v := .int (S1 31 14)) C (by decide) (ce_31 _ _ _) (ci := 3) rfl inlX3 (j := 14) (by decide) rfl tw_160 (Or.inl rfl) dX3_goOn_59 ?_
        refine q_isub (pc := 62) C dX3_goOn_62 ?_
        refine q_goto (pc := 63) (tgt := 67) C dX3_goOn_63 (by decide) ?_
        cases hm
        exact q_iret (pc := 67) C dX3_goOn_67
    · replace hm := hm_t c2 hm
      refine q_aload_n (pc := 16) C dX3_goOn_16 rfl 0 rfl ?_
      obtain ⟨S2, h2, hm⟩ := o1_some hm
      refine q_callV (pc := 17) (k := 31) (As := []) (rest := []) (T := TX3) C (c_Mar_beginToMark hi h2) (by decide) (ce_31 _ _ _) (ci := 3) rfl tw_417 tw_418 tw_419 tw_19 tw_420 (nA := 0) (by decide +kernel) rfl (by decide) (Nat.le_of_ble_eq_true rfl) rfl dX3_goOn_17 ?_
      refine q_iconst (pc := 20) (v := (0 : Int32)) C dX3_goOn_20 (by decide) ?_
      refine q_istore_n (pc := 21) (lv' := [(2, .int (0 : Int32)), (0, .ref (gad G 31)), (1, .int a1)]) C dX3_goOn_21 rfl (by decide) rfl ?_
      refine q_lv (lv' := [(0, .ref (gad G 31)), (1, .int a1), (2, .int (0 : Int32))]) [1, 2, 0] rfl ?_
      obtain ⟨S3, h3, hm⟩ := o1_some hm
      refine w_Mar_goOn_L22 hi C 200 _ _ _ _ h3 ?_
      refine q_aload_n (pc := 44) C dX3_goOn_44 rfl 0 rfl ?_
      refine q_get (pc := 45) (T := TX3) (v := .int (S3 31 10)) C (by decide) (ce_31 _ _ _) (ci := 3) rfl inlX3 (j := 10) (by decide) rfl tw_159 (Or.inl rfl) dX3_goOn_45 ?_
      refine q_if_eq (pc := 48) (tgt := 66) C dX3_goOn_48 (by decide) (fun c4 => ?_) (fun c4 => ?_)
      · replace hm := hm_t c4 hm
        refine q_iconst (pc := 66) (v := (-1 : Int32)) C dX3_goOn_66 (by decide) ?_
        cases hm
        exact q_iret (pc := 67) C dX3_goOn_67
      · replace hm := hm_f c4 hm
        refine q_aload_n (pc := 51) C dX3_goOn_51 rfl 0 rfl ?_
        refine q_get (pc := 52) (T := TX3) (v := .ref (gad G 36)) C (by decide) (ce_31 _ _ _) (ci := 3) rfl inlX3 (j := 12) (by decide) rfl tw_74 (Or.inl rfl) dX3_goOn_52 ?_
        refine q_get (pc := 55) (T := TX5) (v := .int (S3 36 2)) C (by decide) (ce_36 _ _ _) (ci := 5) rfl inlX5 (j := 2) (by decide) rfl tw_448 (Or.inl rfl) dX3_goOn_55 ?_
        refine q_aload_n (pc := 58) C dX3_goOn_58 rfl 0 rfl ?_
        refine q_get (pc := 59) (T := TX3) (v := .int (S3 31 14)) C (by decide) (ce_31 _ _ _) (ci := 3) rfl inlX3 (j := 14) (by decide) rfl tw_160 (Or.inl rfl) dX3_goOn_59 ?_
        refine q_isub (pc := 62) C dX3_goOn_62 ?_
        refine q_goto (pc := 63) (tgt := 67) C dX3_goOn_63 (by decide) ?_
        cases hm
        exact q_iret (pc := 67) C dX3_goOn_67
  · replace hm := hm_f c1 hm
    refine q_iconst (pc := 7) (v := (-1 : Int32)) C dX3_goOn_7 (by decide) ?_
    cases hm
    exact q_iret (pc := 8) C dX3_goOn_8
set_option maxRecDepth 100000 in
theorem c_Te_steps {G : Gx} (hi : qinj (gad G)) {S : St} {a1 : Int32} {zr : Int32} {zS : St} (hm : m_Te_steps S a1 = some (zr, zS)) : QMet G yX8_steps cX8_steps 3 (some .int) 5 108 [.ref (gad G 0), .int a1] S (some (.int zr)) zS := by
  refine q_entry (by decide +kernel) rfl hi (Nat.le_of_ble_eq_true rfl) ?_
  intro X C
  refine q_lv (lv' := [(0, .ref (gad G 0)), (1, .int a1)]) [0, 1] rfl ?_
  unfold m_Te_steps at hm
  refine q_iload_n (pc := 0) C dX8_steps_0 rfl 1 rfl ?_
  refine q_iconst (pc := 1) (v := (1 : Int32)) C dX8_steps_1 (by decide) ?_
  refine q_icmp_lt (pc := 2) (tgt := 11) C dX8_steps_2 (by decide) (fun c1 => ?_) (fun c1 => ?_)
  · replace hm := hm_t c1 hm
    cases hm
  · replace hm := hm_f c1 hm
    refine q_iload_n (pc := 5) C dX8_steps_5 rfl 1 rfl ?_
    refine q_bipush (pc := 6) (v := (20 : Int32)) C dX8_steps_6 (by decide) ?_
    refine q_icmp_le (pc := 8) (tgt := 21) C dX8_steps_8 (by decide) (fun c2 => ?_) (fun c2 => ?_)
    · replace hm := hm_t c2 hm
      refine q_aload_n (pc := 21) C dX8_steps_21 rfl 0 rfl ?_
      refine q_get (pc := 22) (T := TX8) (v := .ref (gad G 31)) C (by decide) (ce_0 _ _ _) (ci := 6) rfl inlX8 (j := 2) (by decide) rfl tw_29 (Or.inl rfl) dX8_steps_22 ?_
      obtain ⟨S1, h1, hm⟩ := o1_some hm
      refine q_callU (pc := 25) (k := 31) (As := []) (rest := []) (T := TX3) (owner := "Tessera$Store") (x := ⟨"Tessera$Marking", "openPause", "()V"⟩) C (c_St_openPause_31 hi h1) (by decide) (ce_31 _ _ _) (ci := 3) rfl (Or.inl rfl) tw_697 tw_698 tw_212 tw_699 tw_62 tw_213 (nA := 0) (by decide +kernel) rfl (by decide) (Nat.le_of_ble_eq_true rfl) rfl dX8_steps_25 ?_
      refine q_aload_n (pc := 28) C dX8_steps_28 rfl 0 rfl ?_
      refine q_get (pc := 29) (T := TX8) (v := .ref (gad G 31)) C (by decide) (ce_0 _ _ _) (ci := 6) rfl inlX8 (j := 2) (by decide) rfl tw_29 (Or.inl rfl) dX8_steps_29 ?_
      refine q_iload_n (pc := 32) C dX8_steps_32 rfl 1 rfl ?_
      obtain ⟨r1, S2, h2, hm⟩ := ob_some hm
      refine q_callV (pc := 33) (k := 31) (As := [.int a1]) (rest := []) (T := TX3) C (c_Mar_goOn hi h2) (by decide) (ce_31 _ _ _) (ci := 3) rfl tw_700 tw_701 tw_702 tw_19 tw_703 (nA := 1) (by decide +kernel) rfl (by decide) (Nat.le_of_ble_eq_true rfl) rfl dX8_steps_33 ?_
      refine q_istore_n (pc := 36) (lv' := [(2, .int r1), (0, .ref (gad G 0)), (1, .int a1)]) C dX8_steps_36 rfl (by decide) rfl ?_
      refine q_aload_n (pc := 37) C dX8_steps_37 rfl 1 rfl ?_
      refine q_get (pc := 38) (T := TX8) (v := .ref (gad G 31)) C (by decide) (ce_0 _ _ _) (ci := 6) rfl inlX8 (j := 2) (by decide) rfl tw_29 (Or.inl rfl) dX8_steps_38 ?_
      obtain ⟨S3, h3, hm⟩ := o1_some hm
      refine q_callU (pc := 41) (k := 31) (As := []) (rest := []) (T := TX3) (owner := "Tessera$Store") (x := ⟨"Tessera$Marking", "closePause", "()V"⟩) C (c_St_closePause_31 hi h3) (by decide) (ce_31 _ _ _) (ci := 3) rfl (Or.inl rfl) tw_706 tw_707 tw_640 tw_708 tw_62 tw_641 (nA := 0) (by decide +kernel) rfl (by decide) (Nat.le_of_ble_eq_true rfl) rfl dX8_steps_41 ?_
      refine q_iload_n (pc := 44) C dX8_steps_44 rfl 0 rfl ?_
      cases hm
      exact q_iret (pc := 45) C dX8_steps_45
    · replace hm := hm_f c2 hm
      cases hm
set_option maxRecDepth 100000 in
theorem c_Te_storeOf {G : Gx} (hi : qinj (gad G)) {S : St} {a1 : Int32} {zr : Nat} (hm : m_Te_storeOf S a1 = some zr) : QMet G yX8_storeOf cX8_storeOf 2 (some (.object "Tessera$Store")) 0 0 [.ref (gad G 0), .int a1] S (some (.ref (gad G zr))) S := by
  refine q_entry (by decide +kernel) rfl hi (Nat.le_of_ble_eq_true rfl) ?_
  intro X C
  refine q_lv (lv' := [(0, .ref (gad G 0)), (1, .int a1)]) [0, 1] rfl ?_
  unfold m_Te_storeOf at hm
  refine q_iload_n (pc := 0) C dX8_storeOf_0 rfl 1 rfl ?_
  refine q_if_lt (pc := 1) (tgt := 9) C dX8_storeOf_1 (by decide) (fun c1 => ?_) (fun c1 => ?_)
  · replace hm := hm_t c1 hm
    cases hm
  · replace hm := hm_f c1 hm
    refine q_iload_n (pc := 4) C dX8_storeOf_4 rfl 1 rfl ?_
    refine q_iconst (pc := 5) (v := (4 : Int32)) C dX8_storeOf_5 (by decide) ?_
    refine q_icmp_lt (pc := 6) (tgt := 20) C dX8_storeOf_6 (by decide) (fun c2 => ?_) (fun c2 => ?_)
    · replace hm := hm_t c2 hm
      refine q_aload_n (pc := 20) C dX8_storeOf_20 rfl 0 rfl ?_
      refine q_get (pc := 21) (T := TX8) (v := .ref (gad G 58)) C (by decide) (ce_0 _ _ _) (ci := 6) rfl inlX8 (j := 4) (by decide) rfl tw_31 (Or.inl rfl) dX8_storeOf_21 ?_
      refine q_iload_n (pc := 24) C dX8_storeOf_24 rfl 1 rfl ?_
      by_cases c3 : a1 = (0 : Int32)
      · replace hm := hm_t c3 hm
        refine q_aald (pc := 25) (k := 12) (n := 0) C (by rw [c3]; rfl) (by decide) rfl dX8_storeOf_25 ?_
        cases hm
        exact q_aret (pc := 26) C (Or.inl ⟨_, rfl⟩) dX8_storeOf_26
      replace hm := hm_f c3 hm
      by_cases c4 : a1 = (1 : Int32)
      · replace hm := hm_t c4 hm
        refine q_aald (pc := 25) (k := 18) (n := 1) C (by rw [c4]; rfl) (by decide) rfl dX8_storeOf_25 ?_
        cases hm
        exact q_aret (pc := 26) C (Or.inl ⟨_, rfl⟩) dX8_storeOf_26
      replace hm := hm_f c4 hm
      by_cases c5 : a1 = (2 : Int32)
      · replace hm := hm_t c5 hm
        refine q_aald (pc := 25) (k := 31) (n := 2) C (by rw [c5]; rfl) (by decide) rfl dX8_storeOf_25 ?_
        cases hm
        exact q_aret (pc := 26) C (Or.inl ⟨_, rfl⟩) dX8_storeOf_26
      replace hm := hm_f c5 hm
      by_cases c6 : a1 = (3 : Int32)
      · replace hm := hm_t c6 hm
        refine q_aald (pc := 25) (k := 42) (n := 3) C (by rw [c6]; rfl) (by decide) rfl dX8_storeOf_25 ?_
        cases hm
        exact q_aret (pc := 26) C (Or.inl ⟨_, rfl⟩) dX8_storeOf_26
      replace hm := hm_f c6 hm
      cases hm
    · replace hm := hm_f c2 hm
      cases hm
set_option maxRecDepth 100000 in
theorem w_St_wordsHad_12_L4 {G : Gx} (hi : qinj (gad G)) {X : Cx} (C : QC G X cX7_wordsHad 3 RX7 1 21 (some .int)) {Q : State → Prop} : ∀ (n : Nat) (S : St) (v1 : Int32) (v2 : Int32) (x1 : Int32), m_St_wordsHad_L4 12 0 n S v1 v2 = some x1 → QW G X 3 Q 44 [(1, .int x1)] [] S → QW G X 3 Q 4 [(0, .ref (gad G 12)), (1, .int v1), (2, .int v2)] [] S := by
  intro n
  induction n with
  | zero =>
    intro S v1 v2 x1 hm kk
    rw [m_St_wordsHad_L4] at hm
    cases hm
  | succ n ih =>
    intro S v1 v2 x1 hm kk
    rw [m_St_wordsHad_L4] at hm
    refine q_iload_n (pc := 4) C dX7_wordsHad_4 rfl 2 rfl ?_
    refine q_aload_n (pc := 5) C dX7_wordsHad_5 rfl 0 rfl ?_
    refine q_get (pc := 6) (T := TX0) (v := .ref (gad G 1)) C (by decide) (ce_12 _ _ _) (ci := 0) rfl inlX0 (j := 0) (by decide) rfl tw_67 (Or.inl rfl) dX7_wordsHad_6 ?_
    refine q_get (pc := 9) (T := TX2) (v := .int (S 1 6)) C (by decide) (ce_1 _ _ _) (ci := 2) rfl inlX2 (j := 6) (by decide) rfl tw_252 (Or.inl rfl) dX7_wordsHad_9 ?_
    refine q_icmp_ge (pc := 12) (tgt := 44) C dX7_wordsHad_12 (by decide) (fun c1 => ?_) (fun c1 => ?_)
    · replace hm := hm_t c1 hm
      cases hm
      refine q_lv (lv' := [(1, .int v1)]) [1] rfl ?_
      exact kk
    · replace hm := hm_f c1 hm
      refine q_iload_n (pc := 15) C dX7_wordsHad_15 rfl 1 rfl ?_
      refine q_aload_n (pc := 16) C dX7_wordsHad_16 rfl 0 rfl ?_
      refine q_iload_n (pc := 17) C dX7_wordsHad_17 rfl 2 rfl ?_
      obtain ⟨r1, h1, hm⟩ := o1_some hm
      refine q_callU (pc := 18) (k := 12) (As := [.int v2]) (rest := [.int v1]) (T := TX0) (owner := "Tessera$Store") (x := ⟨"Tessera$Store", "has", "(I)Z"⟩) C (c_St_has_12 hi h1) (by decide) (ce_12 _ _ _) (ci := 0) rfl (Or.inl rfl) tw_253 tw_254 tw_256 tw_255 tw_62 tw_257 (nA := 1) (by decide +kernel) rfl (by decide) (Nat.le_of_ble_eq_true rfl) rfl dX7_wordsHad_18 ?_
      refine q_if_eq (pc := 21) (tgt := 35) C dX7_wordsHad_21 (by decide) (fun c2 => ?_) (fun c2 => ?_)
      · replace hm := hm_t c2 hm
        refine q_iconst (pc := 35) (v := (0 : Int32)) C dX7_wordsHad_35 (by decide) ?_
        refine q_iadd (pc := 36) C dX7_wordsHad_36 ?_
        refine q_istore_n (pc := 37) (lv' := [(1, .int (v1 + (0 : Int32))), (0, .ref (gad G 12)), (2, .int v2)]) C dX7_wordsHad_37 rfl (by decide) rfl ?_
        refine q_iinc (pc := 38) (k := 2) (v := (v2 + (1 : Int32))) (lv' := [(2, .int (v2 + (1 : Int32))), (1, .int (v1 + (0 : Int32))), (0, .ref (gad G 12))]) C dX7_wordsHad_38 rfl rfl (by decide) rfl ?_
        refine q_goto (pc := 41) (tgt := 4) C dX7_wordsHad_41 (by decide) ?_
        refine q_lv (lv' := [(0, .ref (gad G 12)), (1, .int (v1 + (0 : Int32))), (2, .int (v2 + (1 : Int32)))]) [2, 1, 0] rfl ?_
        exact ih _ _ _ _ hm kk
      · replace hm := hm_f c2 hm
        refine q_aload_n (pc := 24) C dX7_wordsHad_24 rfl 0 rfl ?_
        refine q_get (pc := 25) (T := TX0) (v := .ref (gad G 1)) C (by decide) (ce_12 _ _ _) (ci := 0) rfl inlX0 (j := 0) (by decide) rfl tw_67 (Or.inl rfl) dX7_wordsHad_25 ?_
        refine q_iload_n (pc := 28) C dX7_wordsHad_28 rfl 2 rfl ?_
        obtain ⟨r2, h2, hm⟩ := o1_some hm
        refine q_callV (pc := 29) (k := 1) (As := [.int v2]) (rest := [.int v1]) (T := TX2) C (c_Gr_wordsOf hi h2) (by decide) (ce_1 _ _ _) (ci := 2) rfl tw_416 tw_229 tw_230 tw_13 tw_231 (nA := 1) (by decide +kernel) rfl (by decide) (Nat.le_of_ble_eq_true rfl) rfl dX7_wordsHad_29 ?_
        refine q_goto (pc := 32) (tgt := 36) C dX7_wordsHad_32 (by decide) ?_
        refine q_iadd (pc := 36) C dX7_wordsHad_36 ?_
        refine q_istore_n (pc := 37) (lv' := [(1, .int (v1 + r2)), (0, .ref (gad G 12)), (2, .int v2)]) C dX7_wordsHad_37 rfl (by decide) rfl ?_
        refine q_iinc (pc := 38) (k := 2) (v := (v2 + (1 : Int32))) (lv' := [(2, .int (v2 + (1 : Int32))), (1, .int (v1 + r2)), (0, .ref (gad G 12))]) C dX7_wordsHad_38 rfl rfl (by decide) rfl ?_
        refine q_goto (pc := 41) (tgt := 4) C dX7_wordsHad_41 (by decide) ?_
        refine q_lv (lv' := [(0, .ref (gad G 12)), (1, .int (v1 + r2)), (2, .int (v2 + (1 : Int32)))]) [2, 1, 0] rfl ?_
        exact ih _ _ _ _ hm kk
set_option maxRecDepth 100000 in
theorem c_St_wordsHad_12 {G : Gx} (hi : qinj (gad G)) {S : St}  {zr : Int32} (hm : m_St_wordsHad 12 0 S  = some zr) : QMet G yX7_wordsHad cX7_wordsHad 3 (some .int) 1 21 [.ref (gad G 12)] S (some (.int zr)) S := by
  refine q_entry (by decide +kernel) rfl hi (Nat.le_of_ble_eq_true rfl) ?_
  intro X C
  refine q_lv (lv' := [(0, .ref (gad G 12))]) [0] rfl ?_
  unfold m_St_wordsHad at hm
  refine q_iconst (pc := 0) (v := (0 : Int32)) C dX7_wordsHad_0 (by decide) ?_
  refine q_istore_n (pc := 1) (lv' := [(1, .int (0 : Int32)), (0, .ref (gad G 12))]) C dX7_wordsHad_1 rfl (by decide) rfl ?_
  refine q_iconst (pc := 2) (v := (0 : Int32)) C dX7_wordsHad_2 (by decide) ?_
  refine q_istore_n (pc := 3) (lv' := [(2, .int (0 : Int32)), (1, .int (0 : Int32)), (0, .ref (gad G 12))]) C dX7_wordsHad_3 rfl (by decide) rfl ?_
  refine q_lv (lv' := [(0, .ref (gad G 12)), (1, .int (0 : Int32)), (2, .int (0 : Int32))]) [2, 1, 0] rfl ?_
  obtain ⟨y1, h1, hm⟩ := o1_some hm
  refine w_St_wordsHad_12_L4 hi C 200 _ _ _ _ h1 ?_
  refine q_iload_n (pc := 44) C dX7_wordsHad_44 rfl 0 rfl ?_
  cases hm
  exact q_iret (pc := 45) C dX7_wordsHad_45
set_option maxRecDepth 100000 in
theorem w_St_countUnreached_12_L4 {G : Gx} (hi : qinj (gad G)) {X : Cx} (C : QC G X cX7_countUnreached 3 RX7 1 21 (some .int)) {Q : State → Prop} : ∀ (n : Nat) (S : St) (v1 : Int32) (v2 : Int32) (x1 : Int32), m_St_countUnreached_L4 12 0 n S v1 v2 = some x1 → QW G X 3 Q 48 [(1, .int x1)] [] S → QW G X 3 Q 4 [(0, .ref (gad G 12)), (1, .int v1), (2, .int v2)] [] S := by
  intro n
  induction n with
  | zero =>
    intro S v1 v2 x1 hm kk
    rw [m_St_countUnreached_L4] at hm
    cases hm
  | succ n ih =>
    intro S v1 v2 x1 hm kk
    rw [m_St_countUnreached_L4] at hm
    refine q_iload_n (pc := 4) C dX7_countUnreached_4 rfl 2 rfl ?_
    refine q_aload_n (pc := 5) C dX7_countUnreached_5 rfl 0 rfl ?_
    refine q_get (pc := 6) (T := TX0) (v := .ref (gad G 1)) C (by decide) (ce_12 _ _ _) (ci := 0) rfl inlX0 (j := 0) (by decide) rfl tw_67 (Or.inl rfl) dX7_countUnreached_6 ?_
    refine q_get (pc := 9) (T := TX2) (v := .int (S 1 6)) C (by decide) (ce_1 _ _ _) (ci := 2) rfl inlX2 (j := 6) (by decide) rfl tw_252 (Or.inl rfl) dX7_countUnreached_9 ?_
    refine q_icmp_ge (pc := 12) (tgt := 48) C dX7_countUnreached_12 (by decide) (fun c1 => ?_) (fun c1 => ?_)
    · replace hm := hm_t c1 hm
      cases hm
      refine q_lv (lv' := [(1, .int v1)]) [1] rfl ?_
      exact kk
    · replace hm := hm_f c1 hm
      refine q_iload_n (pc := 15) C dX7_countUnreached_15 rfl 1 rfl ?_
      refine q_aload_n (pc := 16) C dX7_countUnreached_16 rfl 0 rfl ?_
      refine q_iload_n (pc := 17) C dX7_countUnreached_17 rfl 2 rfl ?_
      obtain ⟨r1, h1, hm⟩ := o1_some hm
      refine q_callU (pc := 18) (k := 12) (As := [.int v2]) (rest := [.int v1]) (T := TX0) (owner := "Tessera$Store") (x := ⟨"Tessera$Store", "has", "(I)Z"⟩) C (c_St_has_12 hi h1) (by decide) (ce_12 _ _ _) (ci := 0) rfl (Or.inl rfl) tw_253 tw_254 tw_256 tw_255 tw_62 tw_257 (nA := 1) (by decide +kernel) rfl (by decide) (Nat.le_of_ble_eq_true rfl) rfl dX7_countUnreached_18 ?_
      refine q_if_eq (pc := 21) (tgt := 39) C dX7_countUnreached_21 (by decide) (fun c2 => ?_) (fun c2 => ?_)
      · replace hm := hm_t c2 hm
        refine q_iconst (pc := 39) (v := (0 : Int32)) C dX7_countUnreached_39 (by decide) ?_
        refine q_iadd (pc := 40) C dX7_countUnreached_40 ?_
        refine q_istore_n (pc := 41) (lv' := [(1, .int (v1 + (0 : Int32))), (0, .ref (gad G 12)), (2, .int v2)]) C dX7_countUnreached_41 rfl (by decide) rfl ?_
        refine q_iinc (pc := 42) (k := 2) (v := (v2 + (1 : Int32))) (lv' := [(2, .int (v2 + (1 : Int32))), (1, .int (v1 + (0 : Int32))), (0, .ref (gad G 12))]) C dX7_countUnreached_42 rfl rfl (by decide) rfl ?_
        refine q_goto (pc := 45) (tgt := 4) C dX7_countUnreached_45 (by decide) ?_
        refine q_lv (lv' := [(0, .ref (gad G 12)), (1, .int (v1 + (0 : Int32))), (2, .int (v2 + (1 : Int32)))]) [2, 1, 0] rfl ?_
        exact ih _ _ _ _ hm kk
      · replace hm := hm_f c2 hm
        refine q_aload_n (pc := 24) C dX7_countUnreached_24 rfl 0 rfl ?_
        refine q_get (pc := 25) (T := TX0) (v := .ref (gad G 1)) C (by decide) (ce_12 _ _ _) (ci := 0) rfl inlX0 (j := 0) (by decide) rfl tw_67 (Or.inl rfl) dX7_countUnreached_25 ?_
        refine q_iload_n (pc := 28) C dX7_countUnreached_28 rfl 2 rfl ?_
        obtain ⟨r2, h2, hm⟩ := o1_some hm
        refine q_callV (pc := 29) (k := 1) (As := [.int v2]) (rest := [.int v1]) (T := TX2) C (c_Gr_isReached hi h2) (by decide) (ce_1 _ _ _) (ci := 2) rfl tw_525 tw_526 tw_527 tw_13 tw_528 (nA := 1) (by decide +kernel) rfl (by decide) (Nat.le_of_ble_eq_true rfl) rfl dX7_countUnreached_29 ?_
        refine q_if_ne (pc := 32) (tgt := 39) C dX7_countUnreached_32 (by decide) (fun c3 => ?_) (fun c3 => ?_)
        · replace hm := hm_f c3 hm
          refine q_iconst (pc := 39) (v := (0 : Int32)) C dX7_countUnreached_39 (by decide) ?_
          refine q_iadd (pc := 40) C dX7_countUnreached_40 ?_
          refine q_istore_n (pc := 41) (lv' := [(1, .int (v1 + (0 : Int32))), (0, .ref (gad G 12)), (2, .int v2)]) C dX7_countUnreached_41 rfl (by decide) rfl ?_
          refine q_iinc (pc := 42) (k := 2) (v := (v2 + (1 : Int32))) (lv' := [(2, .int (v2 + (1 : Int32))), (1, .int (v1 + (0 : Int32))), (0, .ref (gad G 12))]) C dX7_countUnreached_42 rfl rfl (by decide) rfl ?_
          refine q_goto (pc := 45) (tgt := 4) C dX7_countUnreached_45 (by decide) ?_
          refine q_lv (lv' := [(0, .ref (gad G 12)), (1, .int (v1 + (0 : Int32))), (2, .int (v2 + (1 : Int32)))]) [2, 1, 0] rfl ?_
          exact ih _ _ _ _ hm kk
        · replace hm := hm_t c3 hm
          refine q_iconst (pc := 35) (v := (1 : Int32)) C dX7_countUnreached_35 (by decide) ?_
          refine q_goto (pc := 36) (tgt := 40) C dX7_countUnreached_36 (by decide) ?_
          refine q_iadd (pc := 40) C dX7_countUnreached_40 ?_
          refine q_istore_n (pc := 41) (lv' := [(1, .int (v1 + (1 : Int32))), (0, .ref (gad G 12)), (2, .int v2)]) C dX7_countUnreached_41 rfl (by decide) rfl ?_
          refine q_iinc (pc := 42) (k := 2) (v := (v2 + (1 : Int32))) (lv' := [(2, .int (v2 + (1 : Int32))), (1, .int (v1 + (1 : Int32))), (0, .ref (gad G 12))]) C dX7_countUnreached_42 rfl rfl (by decide) rfl ?_
          refine q_goto (pc := 45) (tgt := 4) C dX7_countUnreached_45 (by decide) ?_
          refine q_lv (lv' := [(0, .ref (gad G 12)), (1, .int (v1 + (1 : Int32))), (2, .int (v2 + (1 : Int32)))]) [2, 1, 0] rfl ?_
          exact ih _ _ _ _ hm kk
set_option maxRecDepth 100000 in
theorem c_St_countUnreached_12 {G : Gx} (hi : qinj (gad G)) {S : St}  {zr : Int32} (hm : m_St_countUnreached 12 0 S  = some zr) : QMet G yX7_countUnreached cX7_countUnreached 3 (some .int) 1 21 [.ref (gad G 12)] S (some (.int zr)) S := by
  refine q_entry (by decide +kernel) rfl hi (Nat.le_of_ble_eq_true rfl) ?_
  intro X C
  refine q_lv (lv' := [(0, .ref (gad G 12))]) [0] rfl ?_
  unfold m_St_countUnreached at hm
  refine q_iconst (pc := 0) (v := (0 : Int32)) C dX7_countUnreached_0 (by decide) ?_
  refine q_istore_n (pc := 1) (lv' := [(1, .int (0 : Int32)), (0, .ref (gad G 12))]) C dX7_countUnreached_1 rfl (by decide) rfl ?_
  refine q_iconst (pc := 2) (v := (0 : Int32)) C dX7_countUnreached_2 (by decide) ?_
  refine q_istore_n (pc := 3) (lv' := [(2, .int (0 : Int32)), (1, .int (0 : Int32)), (0, .ref (gad G 12))]) C dX7_countUnreached_3 rfl (by decide) rfl ?_
  refine q_lv (lv' := [(0, .ref (gad G 12)), (1, .int (0 : Int32)), (2, .int (0 : Int32))]) [2, 1, 0] rfl ?_
  obtain ⟨y1, h1, hm⟩ := o1_some hm
  refine w_St_countUnreached_12_L4 hi C 200 _ _ _ _ h1 ?_
  refine q_iload_n (pc := 48) C dX7_countUnreached_48 rfl 0 rfl ?_
  cases hm
  exact q_iret (pc := 49) C dX7_countUnreached_49
set_option maxRecDepth 100000 in
theorem w_St_wordsHad_18_L4 {G : Gx} (hi : qinj (gad G)) {X : Cx} (C : QC G X cX7_wordsHad 3 RX7 1 21 (some .int)) {Q : State → Prop} : ∀ (n : Nat) (S : St) (v1 : Int32) (v2 : Int32) (x1 : Int32), m_St_wordsHad_L4 18 0 n S v1 v2 = some x1 → QW G X 3 Q 44 [(1, .int x1)] [] S → QW G X 3 Q 4 [(0, .ref (gad G 18)), (1, .int v1), (2, .int v2)] [] S := by
  intro n
  induction n with
  | zero =>
    intro S v1 v2 x1 hm kk
    rw [m_St_wordsHad_L4] at hm
    cases hm
  | succ n ih =>
    intro S v1 v2 x1 hm kk
    rw [m_St_wordsHad_L4] at hm
    refine q_iload_n (pc := 4) C dX7_wordsHad_4 rfl 2 rfl ?_
    refine q_aload_n (pc := 5) C dX7_wordsHad_5 rfl 0 rfl ?_
    refine q_get (pc := 6) (T := TX4) (v := .ref (gad G 1)) C (by decide) (ce_18 _ _ _) (ci := 4) rfl inlX4 (j := 0) (by decide) rfl tw_67 (Or.inl rfl) dX7_wordsHad_6 ?_
    refine q_get (pc := 9) (T := TX2) (v := .int (S 1 6)) C (by decide) (ce_1 _ _ _) (ci := 2) rfl inlX2 (j := 6) (by decide) rfl tw_252 (Or.inl rfl) dX7_wordsHad_9 ?_
    refine q_icmp_ge (pc := 12) (tgt := 44) C dX7_wordsHad_12 (by decide) (fun c1 => ?_) (fun c1 => ?_)
    · replace hm := hm_t c1 hm
      cases hm
      refine q_lv (lv' := [(1, .int v1)]) [1] rfl ?_
      exact kk
    · replace hm := hm_f c1 hm
      refine q_iload_n (pc := 15) C dX7_wordsHad_15 rfl 1 rfl ?_
      refine q_aload_n (pc := 16) C dX7_wordsHad_16 rfl 0 rfl ?_
      refine q_iload_n (pc := 17) C dX7_wordsHad_17 rfl 2 rfl ?_
      obtain ⟨r1, h1, hm⟩ := o1_some hm
      refine q_callU (pc := 18) (k := 18) (As := [.int v2]) (rest := [.int v1]) (T := TX4) (owner := "Tessera$Store") (x := ⟨"Tessera$Store", "has", "(I)Z"⟩) C (c_St_has_18 hi h1) (by decide) (ce_18 _ _ _) (ci := 4) rfl (Or.inl rfl) tw_253 tw_254 tw_256 tw_260 tw_62 tw_257 (nA := 1) (by decide +kernel) rfl (by decide) (Nat.le_of_ble_eq_true rfl) rfl dX7_wordsHad_18 ?_
      refine q_if_eq (pc := 21) (tgt := 35) C dX7_wordsHad_21 (by decide) (fun c2 => ?_) (fun c2 => ?_)
      · replace hm := hm_t c2 hm
        refine q_iconst (pc := 35) (v := (0 : Int32)) C dX7_wordsHad_35 (by decide) ?_
        refine q_iadd (pc := 36) C dX7_wordsHad_36 ?_
        refine q_istore_n (pc := 37) (lv' := [(1, .int (v1 + (0 : Int32))), (0, .ref (gad G 18)), (2, .int v2)]) C dX7_wordsHad_37 rfl (by decide) rfl ?_
        refine q_iinc (pc := 38) (k := 2) (v := (v2 + (1 : Int32))) (lv' := [(2, .int (v2 + (1 : Int32))), (1, .int (v1 + (0 : Int32))), (0, .ref (gad G 18))]) C dX7_wordsHad_38 rfl rfl (by decide) rfl ?_
        refine q_goto (pc := 41) (tgt := 4) C dX7_wordsHad_41 (by decide) ?_
        refine q_lv (lv' := [(0, .ref (gad G 18)), (1, .int (v1 + (0 : Int32))), (2, .int (v2 + (1 : Int32)))]) [2, 1, 0] rfl ?_
        exact ih _ _ _ _ hm kk
      · replace hm := hm_f c2 hm
        refine q_aload_n (pc := 24) C dX7_wordsHad_24 rfl 0 rfl ?_
        refine q_get (pc := 25) (T := TX4) (v := .ref (gad G 1)) C (by decide) (ce_18 _ _ _) (ci := 4) rfl inlX4 (j := 0) (by decide) rfl tw_67 (Or.inl rfl) dX7_wordsHad_25 ?_
        refine q_iload_n (pc := 28) C dX7_wordsHad_28 rfl 2 rfl ?_
        obtain ⟨r2, h2, hm⟩ := o1_some hm
        refine q_callV (pc := 29) (k := 1) (As := [.int v2]) (rest := [.int v1]) (T := TX2) C (c_Gr_wordsOf hi h2) (by decide) (ce_1 _ _ _) (ci := 2) rfl tw_416 tw_229 tw_230 tw_13 tw_231 (nA := 1) (by decide +kernel) rfl (by decide) (Nat.le_of_ble_eq_true rfl) rfl dX7_wordsHad_29 ?_
        refine q_goto (pc := 32) (tgt := 36) C dX7_wordsHad_32 (by decide) ?_
        refine q_iadd (pc := 36) C dX7_wordsHad_36 ?_
        refine q_istore_n (pc := 37) (lv' := [(1, .int (v1 + r2)), (0, .ref (gad G 18)), (2, .int v2)]) C dX7_wordsHad_37 rfl (by decide) rfl ?_
        refine q_iinc (pc := 38) (k := 2) (v := (v2 + (1 : Int32))) (lv' := [(2, .int (v2 + (1 : Int32))), (1, .int (v1 + r2)), (0, .ref (gad G 18))]) C dX7_wordsHad_38 rfl rfl (by decide) rfl ?_
        refine q_goto (pc := 41) (tgt := 4) C dX7_wordsHad_41 (by decide) ?_
        refine q_lv (lv' := [(0, .ref (gad G 18)), (1, .int (v1 + r2)), (2, .int (v2 + (1 : Int32)))]) [2, 1, 0] rfl ?_
        exact ih _ _ _ _ hm kk
set_option maxRecDepth 100000 in
theorem c_St_wordsHad_18 {G : Gx} (hi : qinj (gad G)) {S : St}  {zr : Int32} (hm : m_St_wordsHad 18 0 S  = some zr) : QMet G yX7_wordsHad cX7_wordsHad 3 (some .int) 1 21 [.ref (gad G 18)] S (some (.int zr)) S := by
  refine q_entry (by decide +kernel) rfl hi (Nat.le_of_ble_eq_true rfl) ?_
  intro X C
  refine q_lv (lv' := [(0, .ref (gad G 18))]) [0] rfl ?_
  unfold m_St_wordsHad at hm
  refine q_iconst (pc := 0) (v := (0 : Int32)) C dX7_wordsHad_0 (by decide) ?_
  refine q_istore_n (pc := 1) (lv' := [(1, .int (0 : Int32)), (0, .ref (gad G 18))]) C dX7_wordsHad_1 rfl (by decide) rfl ?_
  refine q_iconst (pc := 2) (v := (0 : Int32)) C dX7_wordsHad_2 (by decide) ?_
  refine q_istore_n (pc := 3) (lv' := [(2, .int (0 : Int32)), (1, .int (0 : Int32)), (0, .ref (gad G 18))]) C dX7_wordsHad_3 rfl (by decide) rfl ?_
  refine q_lv (lv' := [(0, .ref (gad G 18)), (1, .int (0 : Int32)), (2, .int (0 : Int32))]) [2, 1, 0] rfl ?_
  obtain ⟨y1, h1, hm⟩ := o1_some hm
  refine w_St_wordsHad_18_L4 hi C 200 _ _ _ _ h1 ?_
  refine q_iload_n (pc := 44) C dX7_wordsHad_44 rfl 0 rfl ?_
  cases hm
  exact q_iret (pc := 45) C dX7_wordsHad_45
set_option maxRecDepth 100000 in
theorem w_St_countUnreached_18_L4 {G : Gx} (hi : qinj (gad G)) {X : Cx} (C : QC G X cX7_countUnreached 3 RX7 1 21 (some .int)) {Q : State → Prop} : ∀ (n : Nat) (S : St) (v1 : Int32) (v2 : Int32) (x1 : Int32), m_St_countUnreached_L4 18 0 n S v1 v2 = some x1 → QW G X 3 Q 48 [(1, .int x1)] [] S → QW G X 3 Q 4 [(0, .ref (gad G 18)), (1, .int v1), (2, .int v2)] [] S := by
  intro n
  induction n with
  | zero =>
    intro S v1 v2 x1 hm kk
    rw [m_St_countUnreached_L4] at hm
    cases hm
  | succ n ih =>
    intro S v1 v2 x1 hm kk
    rw [m_St_countUnreached_L4] at hm
    refine q_iload_n (pc := 4) C dX7_countUnreached_4 rfl 2 rfl ?_
    refine q_aload_n (pc := 5) C dX7_countUnreached_5 rfl 0 rfl ?_
    refine q_get (pc := 6) (T := TX4) (v := .ref (gad G 1)) C (by decide) (ce_18 _ _ _) (ci := 4) rfl inlX4 (j := 0) (by decide) rfl tw_67 (Or.inl rfl) dX7_countUnreached_6 ?_
    refine q_get (pc := 9) (T := TX2) (v := .int (S 1 6)) C (by decide) (ce_1 _ _ _) (ci := 2) rfl inlX2 (j := 6) (by decide) rfl tw_252 (Or.inl rfl) dX7_countUnreached_9 ?_
    refine q_icmp_ge (pc := 12) (tgt := 48) C dX7_countUnreached_12 (by decide) (fun c1 => ?_) (fun c1 => ?_)
    · replace hm := hm_t c1 hm
      cases hm
      refine q_lv (lv' := [(1, .int v1)]) [1] rfl ?_
      exact kk
    · replace hm := hm_f c1 hm
      refine q_iload_n (pc := 15) C dX7_countUnreached_15 rfl 1 rfl ?_
      refine q_aload_n (pc := 16) C dX7_countUnreached_16 rfl 0 rfl ?_
      refine q_iload_n (pc := 17) C dX7_countUnreached_17 rfl 2 rfl ?_
      obtain ⟨r1, h1, hm⟩ := o1_some hm
      refine q_callU (pc := 18) (k := 18) (As := [.int v2]) (rest := [.int v1]) (T := TX4) (owner := "Tessera$Store") (x := ⟨"Tessera$Store", "has", "(I)Z"⟩) C (c_St_has_18 hi h1) (by decide) (ce_18 _ _ _) (ci := 4) rfl (Or.inl rfl) tw_253 tw_254 tw_256 tw_260 tw_62 tw_257 (nA := 1) (by decide +kernel) rfl (by decide) (Nat.le_of_ble_eq_true rfl) rfl dX7_countUnreached_18 ?_
      refine q_if_eq (pc := 21) (tgt := 39) C dX7_countUnreached_21 (by decide) (fun c2 => ?_) (fun c2 => ?_)
      · replace hm := hm_t c2 hm
        refine q_iconst (pc := 39) (v := (0 : Int32)) C dX7_countUnreached_39 (by decide) ?_
        refine q_iadd (pc := 40) C dX7_countUnreached_40 ?_
        refine q_istore_n (pc := 41) (lv' := [(1, .int (v1 + (0 : Int32))), (0, .ref (gad G 18)), (2, .int v2)]) C dX7_countUnreached_41 rfl (by decide) rfl ?_
        refine q_iinc (pc := 42) (k := 2) (v := (v2 + (1 : Int32))) (lv' := [(2, .int (v2 + (1 : Int32))), (1, .int (v1 + (0 : Int32))), (0, .ref (gad G 18))]) C dX7_countUnreached_42 rfl rfl (by decide) rfl ?_
        refine q_goto (pc := 45) (tgt := 4) C dX7_countUnreached_45 (by decide) ?_
        refine q_lv (lv' := [(0, .ref (gad G 18)), (1, .int (v1 + (0 : Int32))), (2, .int (v2 + (1 : Int32)))]) [2, 1, 0] rfl ?_
        exact ih _ _ _ _ hm kk
      · replace hm := hm_f c2 hm
        refine q_aload_n (pc := 24) C dX7_countUnreached_24 rfl 0 rfl ?_
        refine q_get (pc := 25) (T := TX4) (v := .ref (gad G 1)) C (by decide) (ce_18 _ _ _) (ci := 4) rfl inlX4 (j := 0) (by decide) rfl tw_67 (Or.inl rfl) dX7_countUnreached_25 ?_
        refine q_iload_n (pc := 28) C dX7_countUnreached_28 rfl 2 rfl ?_
        obtain ⟨r2, h2, hm⟩ := o1_some hm
        refine q_callV (pc := 29) (k := 1) (As := [.int v2]) (rest := [.int v1]) (T := TX2) C (c_Gr_isReached hi h2) (by decide) (ce_1 _ _ _) (ci := 2) rfl tw_525 tw_526 tw_527 tw_13 tw_528 (nA := 1) (by decide +kernel) rfl (by decide) (Nat.le_of_ble_eq_true rfl) rfl dX7_countUnreached_29 ?_
        refine q_if_ne (pc := 32) (tgt := 39) C dX7_countUnreached_32 (by decide) (fun c3 => ?_) (fun c3 => ?_)
        · replace hm := hm_f c3 hm
          refine q_iconst (pc := 39) (v := (0 : Int32)) C dX7_countUnreached_39 (by decide) ?_
          refine q_iadd (pc := 40) C dX7_countUnreached_40 ?_
          refine q_istore_n (pc := 41) (lv' := [(1, .int (v1 + (0 : Int32))), (0, .ref (gad G 18)), (2, .int v2)]) C dX7_countUnreached_41 rfl (by decide) rfl ?_
          refine q_iinc (pc := 42) (k := 2) (v := (v2 + (1 : Int32))) (lv' := [(2, .int (v2 + (1 : Int32))), (1, .int (v1 + (0 : Int32))), (0, .ref (gad G 18))]) C dX7_countUnreached_42 rfl rfl (by decide) rfl ?_
          refine q_goto (pc := 45) (tgt := 4) C dX7_countUnreached_45 (by decide) ?_
          refine q_lv (lv' := [(0, .ref (gad G 18)), (1, .int (v1 + (0 : Int32))), (2, .int (v2 + (1 : Int32)))]) [2, 1, 0] rfl ?_
          exact ih _ _ _ _ hm kk
        · replace hm := hm_t c3 hm
          refine q_iconst (pc := 35) (v := (1 : Int32)) C dX7_countUnreached_35 (by decide) ?_
          refine q_goto (pc := 36) (tgt := 40) C dX7_countUnreached_36 (by decide) ?_
          refine q_iadd (pc := 40) C dX7_countUnreached_40 ?_
          refine q_istore_n (pc := 41) (lv' := [(1, .int (v1 + (1 : Int32))), (0, .ref (gad G 18)), (2, .int v2)]) C dX7_countUnreached_41 rfl (by decide) rfl ?_
          refine q_iinc (pc := 42) (k := 2) (v := (v2 + (1 : Int32))) (lv' := [(2, .int (v2 + (1 : Int32))), (1, .int (v1 + (1 : Int32))), (0, .ref (gad G 18))]) C dX7_countUnreached_42 rfl rfl (by decide) rfl ?_
          refine q_goto (pc := 45) (tgt := 4) C dX7_countUnreached_45 (by decide) ?_
          refine q_lv (lv' := [(0, .ref (gad G 18)), (1, .int (v1 + (1 : Int32))), (2, .int (v2 + (1 : Int32)))]) [2, 1, 0] rfl ?_
          exact ih _ _ _ _ hm kk
set_option maxRecDepth 100000 in
theorem c_St_countUnreached_18 {G : Gx} (hi : qinj (gad G)) {S : St}  {zr : Int32} (hm : m_St_countUnreached 18 0 S  = some zr) : QMet G yX7_countUnreached cX7_countUnreached 3 (some .int) 1 21 [.ref (gad G 18)] S (some (.int zr)) S := by
  refine q_entry (by decide +kernel) rfl hi (Nat.le_of_ble_eq_true rfl) ?_
  intro X C
  refine q_lv (lv' := [(0, .ref (gad G 18))]) [0] rfl ?_
  unfold m_St_countUnreached at hm
  refine q_iconst (pc := 0) (v := (0 : Int32)) C dX7_countUnreached_0 (by decide) ?_
  refine q_istore_n (pc := 1) (lv' := [(1, .int (0 : Int32)), (0, .ref (gad G 18))]) C dX7_countUnreached_1 rfl (by decide) rfl ?_
  refine q_iconst (pc := 2) (v := (0 : Int32)) C dX7_countUnreached_2 (by decide) ?_
  refine q_istore_n (pc := 3) (lv' := [(2, .int (0 : Int32)), (1, .int (0 : Int32)), (0, .ref (gad G 18))]) C dX7_countUnreached_3 rfl (by decide) rfl ?_
  refine q_lv (lv' := [(0, .ref (gad G 18)), (1, .int (0 : Int32)), (2, .int (0 : Int32))]) [2, 1, 0] rfl ?_
  obtain ⟨y1, h1, hm⟩ := o1_some hm
  refine w_St_countUnreached_18_L4 hi C 200 _ _ _ _ h1 ?_
  refine q_iload_n (pc := 48) C dX7_countUnreached_48 rfl 0 rfl ?_
  cases hm
  exact q_iret (pc := 49) C dX7_countUnreached_49
set_option maxRecDepth 100000 in
theorem w_St_countUnreached_31_L4 {G : Gx} (hi : qinj (gad G)) {X : Cx} (C : QC G X cX7_countUnreached 3 RX7 1 21 (some .int)) {Q : State → Prop} : ∀ (n : Nat) (S : St) (v1 : Int32) (v2 : Int32) (x1 : Int32), m_St_countUnreached_L4 31 1 n S v1 v2 = some x1 → QW G X 3 Q 48 [(1, .int x1)] [] S → QW G X 3 Q 4 [(0, .ref (gad G 31)), (1, .int v1), (2, .int v2)] [] S := by
  intro n
  induction n with
  | zero =>
    intro S v1 v2 x1 hm kk
    rw [m_St_countUnreached_L4] at hm
    cases hm
  | succ n ih =>
    intro S v1 v2 x1 hm kk
    rw [m_St_countUnreached_L4] at hm
    refine q_iload_n (pc := 4) C dX7_countUnreached_4 rfl 2 rfl ?_
    refine q_aload_n (pc := 5) C dX7_countUnreached_5 rfl 0 rfl ?_
    refine q_get (pc := 6) (T := TX3) (v := .ref (gad G 1)) C (by decide) (ce_31 _ _ _) (ci := 3) rfl inlX3 (j := 1) (by decide) rfl tw_67 (Or.inl rfl) dX7_countUnreached_6 ?_
    refine q_get (pc := 9) (T := TX2) (v := .int (S 1 6)) C (by decide) (ce_1 _ _ _) (ci := 2) rfl inlX2 (j := 6) (by decide) rfl tw_252 (Or.inl rfl) dX7_countUnreached_9 ?_
    refine q_icmp_ge (pc := 12) (tgt := 48) C dX7_countUnreached_12 (by decide) (fun c1 => ?_) (fun c1 => ?_)
    · replace hm := hm_t c1 hm
      cases hm
      refine q_lv (lv' := [(1, .int v1)]) [1] rfl ?_
      exact kk
    · replace hm := hm_f c1 hm
      refine q_iload_n (pc := 15) C dX7_countUnreached_15 rfl 1 rfl ?_
      refine q_aload_n (pc := 16) C dX7_countUnreached_16 rfl 0 rfl ?_
      refine q_iload_n (pc := 17) C dX7_countUnreached_17 rfl 2 rfl ?_
      obtain ⟨r1, h1, hm⟩ := o1_some hm
      refine q_callU (pc := 18) (k := 31) (As := [.int v2]) (rest := [.int v1]) (T := TX3) (owner := "Tessera$Store") (x := ⟨"Tessera$Store", "has", "(I)Z"⟩) C (c_St_has_31 hi h1) (by decide) (ce_31 _ _ _) (ci := 3) rfl (Or.inl rfl) tw_253 tw_254 tw_256 tw_259 tw_62 tw_257 (nA := 1) (by decide +kernel) rfl (by decide) (Nat.le_of_ble_eq_true rfl) rfl dX7_countUnreached_18 ?_
      refine q_if_eq (pc := 21) (tgt := 39) C dX7_countUnreached_21 (by decide) (fun c2 => ?_) (fun c2 => ?_)
      · replace hm := hm_t c2 hm
        refine q_iconst (pc := 39) (v := (0 : Int32)) C dX7_countUnreached_39 (by decide) ?_
        refine q_iadd (pc := 40) C dX7_countUnreached_40 ?_
        refine q_istore_n (pc := 41) (lv' := [(1, .int (v1 + (0 : Int32))), (0, .ref (gad G 31)), (2, .int v2)]) C dX7_countUnreached_41 rfl (by decide) rfl ?_
        refine q_iinc (pc := 42) (k := 2) (v := (v2 + (1 : Int32))) (lv' := [(2, .int (v2 + (1 : Int32))), (1, .int (v1 + (0 : Int32))), (0, .ref (gad G 31))]) C dX7_countUnreached_42 rfl rfl (by decide) rfl ?_
        refine q_goto (pc := 45) (tgt := 4) C dX7_countUnreached_45 (by decide) ?_
        refine q_lv (lv' := [(0, .ref (gad G 31)), (1, .int (v1 + (0 : Int32))), (2, .int (v2 + (1 : Int32)))]) [2, 1, 0] rfl ?_
        exact ih _ _ _ _ hm kk
      · replace hm := hm_f c2 hm
        refine q_aload_n (pc := 24) C dX7_countUnreached_24 rfl 0 rfl ?_
        refine q_get (pc := 25) (T := TX3) (v := .ref (gad G 1)) C (by decide) (ce_31 _ _ _) (ci := 3) rfl inlX3 (j := 1) (by decide) rfl tw_67 (Or.inl rfl) dX7_countUnreached_25 ?_
        refine q_iload_n (pc := 28) C dX7_countUnreached_28 rfl 2 rfl ?_
        obtain ⟨r2, h2, hm⟩ := o1_some hm
        refine q_callV (pc := 29) (k := 1) (As := [.int v2]) (rest := [.int v1]) (T := TX2) C (c_Gr_isReached hi h2) (by decide) (ce_1 _ _ _) (ci := 2) rfl tw_525 tw_526 tw_527 tw_13 tw_528 (nA := 1) (by decide +kernel) rfl (by decide) (Nat.le_of_ble_eq_true rfl) rfl dX7_countUnreached_29 ?_
        refine q_if_ne (pc := 32) (tgt := 39) C dX7_countUnreached_32 (by decide) (fun c3 => ?_) (fun c3 => ?_)
        · replace hm := hm_f c3 hm
          refine q_iconst (pc := 39) (v := (0 : Int32)) C dX7_countUnreached_39 (by decide) ?_
          refine q_iadd (pc := 40) C dX7_countUnreached_40 ?_
          refine q_istore_n (pc := 41) (lv' := [(1, .int (v1 + (0 : Int32))), (0, .ref (gad G 31)), (2, .int v2)]) C dX7_countUnreached_41 rfl (by decide) rfl ?_
          refine q_iinc (pc := 42) (k := 2) (v := (v2 + (1 : Int32))) (lv' := [(2, .int (v2 + (1 : Int32))), (1, .int (v1 + (0 : Int32))), (0, .ref (gad G 31))]) C dX7_countUnreached_42 rfl rfl (by decide) rfl ?_
          refine q_goto (pc := 45) (tgt := 4) C dX7_countUnreached_45 (by decide) ?_
          refine q_lv (lv' := [(0, .ref (gad G 31)), (1, .int (v1 + (0 : Int32))), (2, .int (v2 + (1 : Int32)))]) [2, 1, 0] rfl ?_
          exact ih _ _ _ _ hm kk
        · replace hm := hm_t c3 hm
          refine q_iconst (pc := 35) (v := (1 : Int32)) C dX7_countUnreached_35 (by decide) ?_
          refine q_goto (pc := 36) (tgt := 40) C dX7_countUnreached_36 (by decide) ?_
          refine q_iadd (pc := 40) C dX7_countUnreached_40 ?_
          refine q_istore_n (pc := 41) (lv' := [(1, .int (v1 + (1 : Int32))), (0, .ref (gad G 31)), (2, .int v2)]) C dX7_countUnreached_41 rfl (by decide) rfl ?_
          refine q_iinc (pc := 42) (k := 2) (v := (v2 + (1 : Int32))) (lv' := [(2, .int (v2 + (1 : Int32))), (1, .int (v1 + (1 : Int32))), (0, .ref (gad G 31))]) C dX7_countUnreached_42 rfl rfl (by decide) rfl ?_
          refine q_goto (pc := 45) (tgt := 4) C dX7_countUnreached_45 (by decide) ?_
          refine q_lv (lv' := [(0, .ref (gad G 31)), (1, .int (v1 + (1 : Int32))), (2, .int (v2 + (1 : Int32)))]) [2, 1, 0] rfl ?_
          exact ih _ _ _ _ hm kk
set_option maxRecDepth 100000 in
theorem c_St_countUnreached_31 {G : Gx} (hi : qinj (gad G)) {S : St}  {zr : Int32} (hm : m_St_countUnreached 31 1 S  = some zr) : QMet G yX7_countUnreached cX7_countUnreached 3 (some .int) 1 21 [.ref (gad G 31)] S (some (.int zr)) S := by
  refine q_entry (by decide +kernel) rfl hi (Nat.le_of_ble_eq_true rfl) ?_
  intro X C
  refine q_lv (lv' := [(0, .ref (gad G 31))]) [0] rfl ?_
  unfold m_St_countUnreached at hm
  refine q_iconst (pc := 0) (v := (0 : Int32)) C dX7_countUnreached_0 (by decide) ?_
  refine q_istore_n (pc := 1) (lv' := [(1, .int (0 : Int32)), (0, .ref (gad G 31))]) C dX7_countUnreached_1 rfl (by decide) rfl ?_
  refine q_iconst (pc := 2) (v := (0 : Int32)) C dX7_countUnreached_2 (by decide) ?_
  refine q_istore_n (pc := 3) (lv' := [(2, .int (0 : Int32)), (1, .int (0 : Int32)), (0, .ref (gad G 31))]) C dX7_countUnreached_3 rfl (by decide) rfl ?_
  refine q_lv (lv' := [(0, .ref (gad G 31)), (1, .int (0 : Int32)), (2, .int (0 : Int32))]) [2, 1, 0] rfl ?_
  obtain ⟨y1, h1, hm⟩ := o1_some hm
  refine w_St_countUnreached_31_L4 hi C 200 _ _ _ _ h1 ?_
  refine q_iload_n (pc := 48) C dX7_countUnreached_48 rfl 0 rfl ?_
  cases hm
  exact q_iret (pc := 49) C dX7_countUnreached_49
set_option maxRecDepth 100000 in
theorem w_Sc_freeTogether_31_L10 {G : Gx} (hi : qinj (gad G)) {X : Cx} (C : QC G X cX6_freeTogether 4 RX6 4 87 (some .int)) {Q : State → Prop} : ∀ (n : Nat) (S : St) (v1 : Int32) (v2 : Int32) (v3 : Int32) (x1 : Int32), m_Sc_freeTogether_L10 31 n S v1 v2 v3 = some x1 → QW G X 4 Q 54 [(1, .int x1)] [] S → QW G X 4 Q 10 [(0, .ref (gad G 31)), (1, .int v1), (2, .int v2), (3, .int v3)] [] S := by
  intro n
  induction n with
  | zero =>
    intro S v1 v2 v3 x1 hm kk
    rw [m_Sc_freeTogether_L10] at hm
    cases hm
  | succ n ih =>
    intro S v1 v2 v3 x1 hm kk
    rw [m_Sc_freeTogether_L10] at hm
    refine q_iload_n (pc := 10) C dX6_freeTogether_10 rfl 3 rfl ?_
    refine q_aload_n (pc := 11) C dX6_freeTogether_11 rfl 0 rfl ?_
    refine q_get (pc := 12) (T := TX3) (v := .int (S 31 2)) C (by decide) (ce_31 _ _ _) (ci := 3) rfl inlX3 (j := 2) (by decide) rfl tw_320 (Or.inr tw_321) dX6_freeTogether_12 ?_
    refine q_icmp_ge (pc := 15) (tgt := 54) C dX6_freeTogether_15 (by decide) (fun c1 => ?_) (fun c1 => ?_)
    · replace hm := hm_t c1 hm
      cases hm
      refine q_lv (lv' := [(1, .int v1)]) [1] rfl ?_
      exact kk
    · replace hm := hm_f c1 hm
      refine q_iload_n (pc := 18) C dX6_freeTogether_18 rfl 3 rfl ?_
      refine q_sipush (pc := 19) (v := (160 : Int32)) C dX6_freeTogether_19 (by decide) ?_
      refine q_icmp_ge (pc := 22) (tgt := 54) C dX6_freeTogether_22 (by decide) (fun c2 => ?_) (fun c2 => ?_)
      · replace hm := hm_t c2 hm
        cases hm
        refine q_lv (lv' := [(1, .int v1)]) [1] rfl ?_
        exact kk
      · replace hm := hm_f c2 hm
        refine q_aload_n (pc := 25) C dX6_freeTogether_25 rfl 0 rfl ?_
        refine q_get (pc := 26) (T := TX3) (v := .ref (gad G 34)) C (by decide) (ce_31 _ _ _) (ci := 3) rfl inlX3 (j := 0) (by decide) rfl tw_80 (Or.inl rfl) dX6_freeTogether_26 ?_
        refine q_iload_n (pc := 29) C dX6_freeTogether_29 rfl 3 rfl ?_
        obtain ⟨b1, hm⟩ := oi_some hm
        refine q_zald (pc := 30) C (by decide) (ce_34 _ _ _) (ty_34 _) b1 dX6_freeTogether_30 ?_
        refine q_if_eq (pc := 31) (tgt := 38) C dX6_freeTogether_31 (by decide) (fun c3 => ?_) (fun c3 => ?_)
        · replace hm := hm_t c3 hm
          refine q_iload_n (pc := 38) C dX6_freeTogether_38 rfl 2 rfl ?_
          refine q_iconst (pc := 39) (v := (1 : Int32)) C dX6_freeTogether_39 (by decide) ?_
          refine q_iadd (pc := 40) C dX6_freeTogether_40 ?_
          refine q_istore_n (pc := 41) (lv' := [(2, .int (v2 + (1 : Int32))), (0, .ref (gad G 31)), (1, .int v1), (3, .int v3)]) C dX6_freeTogether_41 rfl (by decide) rfl ?_
          refine q_iload_n (pc := 42) C dX6_freeTogether_42 rfl 2 rfl ?_
          refine q_iload_n (pc := 43) C dX6_freeTogether_43 rfl 0 rfl ?_
          refine q_max (pc := 44) C tw_746 tw_643 tw_644 tw_645 (by decide) (Nat.le_of_ble_eq_true rfl) dX6_freeTogether_44 ?_
          refine q_istore_n (pc := 47) (lv' := [(1, .int (if v1 < (v2 + (1 : Int32)) then (v2 + (1 : Int32)) else v1)), (2, .int (v2 + (1 : Int32))), (0, .ref (gad G 31)), (3, .int v3)]) C dX6_freeTogether_47 rfl (by decide) rfl ?_
          refine q_iinc (pc := 48) (k := 3) (v := (v3 + (1 : Int32))) (lv' := [(3, .int (v3 + (1 : Int32))), (1, .int (if v1 < (v2 + (1 : Int32)) then (v2 + (1 : Int32)) else v1)), (2, .int (v2 + (1 : Int32))), (0, .ref (gad G 31))]) C dX6_freeTogether_48 rfl rfl (by decide) rfl ?_
          refine q_goto (pc := 51) (tgt := 10) C dX6_freeTogether_51 (by decide) ?_
          refine q_lv (lv' := [(0, .ref (gad G 31)), (1, .int (if v1 < (v2 + (1 : Int32)) then (v2 + (1 : Int32)) else v1)), (2, .int (v2 + (1 : Int32))), (3, .int (v3 + (1 : Int32)))]) [3, 1, 2, 0] rfl ?_
          exact ih _ _ _ _ _ hm kk
        · replace hm := hm_f c3 hm
          refine q_iconst (pc := 34) (v := (0 : Int32)) C dX6_freeTogether_34 (by decide) ?_
          refine q_goto (pc := 35) (tgt := 41) C dX6_freeTogether_35 (by decide) ?_
          refine q_istore_n (pc := 41) (lv' := [(2, .int (0 : Int32)), (0, .ref (gad G 31)), (1, .int v1), (3, .int v3)]) C dX6_freeTogether_41 rfl (by decide) rfl ?_
          refine q_iload_n (pc := 42) C dX6_freeTogether_42 rfl 2 rfl ?_
          refine q_iload_n (pc := 43) C dX6_freeTogether_43 rfl 0 rfl ?_
          refine q_max (pc := 44) C tw_746 tw_643 tw_644 tw_645 (by decide) (Nat.le_of_ble_eq_true rfl) dX6_freeTogether_44 ?_
          refine q_istore_n (pc := 47) (lv' := [(1, .int (if v1 < (0 : Int32) then (0 : Int32) else v1)), (2, .int (0 : Int32)), (0, .ref (gad G 31)), (3, .int v3)]) C dX6_freeTogether_47 rfl (by decide) rfl ?_
          refine q_iinc (pc := 48) (k := 3) (v := (v3 + (1 : Int32))) (lv' := [(3, .int (v3 + (1 : Int32))), (1, .int (if v1 < (0 : Int32) then (0 : Int32) else v1)), (2, .int (0 : Int32)), (0, .ref (gad G 31))]) C dX6_freeTogether_48 rfl rfl (by decide) rfl ?_
          refine q_goto (pc := 51) (tgt := 10) C dX6_freeTogether_51 (by decide) ?_
          refine q_lv (lv' := [(0, .ref (gad G 31)), (1, .int (if v1 < (0 : Int32) then (0 : Int32) else v1)), (2, .int (0 : Int32)), (3, .int (v3 + (1 : Int32)))]) [3, 1, 2, 0] rfl ?_
          exact ih _ _ _ _ _ hm kk
set_option maxRecDepth 100000 in
theorem c_Sc_freeTogether_31 {G : Gx} (hi : qinj (gad G)) {S : St}  {zr : Int32} {zS : St} (hm : m_Sc_freeTogether 31 S  = some (zr, zS)) : QMet G yX6_freeTogether cX6_freeTogether 4 (some .int) 4 87 [.ref (gad G 31)] S (some (.int zr)) zS := by
  refine q_entry (by decide +kernel) rfl hi (Nat.le_of_ble_eq_true rfl) ?_
  intro X C
  refine q_lv (lv' := [(0, .ref (gad G 31))]) [0] rfl ?_
  unfold m_Sc_freeTogether at hm
  refine q_iconst (pc := 0) (v := (0 : Int32)) C dX6_freeTogether_0 (by decide) ?_
  refine q_istore_n (pc := 1) (lv' := [(1, .int (0 : Int32)), (0, .ref (gad G 31))]) C dX6_freeTogether_1 rfl (by decide) rfl ?_
  refine q_iconst (pc := 2) (v := (0 : Int32)) C dX6_freeTogether_2 (by decide) ?_
  refine q_istore_n (pc := 3) (lv' := [(2, .int (0 : Int32)), (1, .int (0 : Int32)), (0, .ref (gad G 31))]) C dX6_freeTogether_3 rfl (by decide) rfl ?_
  refine q_aload_n (pc := 4) C dX6_freeTogether_4 rfl 2 rfl ?_
  obtain ⟨S1, h1, hm⟩ := o1_some hm
  refine q_callU (pc := 5) (k := 31) (As := []) (rest := []) (T := TX3) (owner := "Tessera$Scattered") (x := ⟨"Tessera$Scattered", "markTaken", "()V"⟩) C (c_Sc_markTaken_31 hi h1) (by decide) (ce_31 _ _ _) (ci := 3) rfl (Or.inl rfl) tw_323 tw_324 tw_326 tw_345 tw_78 tw_327 (nA := 0) (by decide +kernel) rfl (by decide) (Nat.le_of_ble_eq_true rfl) rfl dX6_freeTogether_5 ?_
  refine q_iconst (pc := 8) (v := (0 : Int32)) C dX6_freeTogether_8 (by decide) ?_
  refine q_istore_n (pc := 9) (lv' := [(3, .int (0 : Int32)), (2, .int (0 : Int32)), (1, .int (0 : Int32)), (0, .ref (gad G 31))]) C dX6_freeTogether_9 rfl (by decide) rfl ?_
  refine q_lv (lv' := [(0, .ref (gad G 31)), (1, .int (0 : Int32)), (2, .int (0 : Int32)), (3, .int (0 : Int32))]) [3, 2, 1, 0] rfl ?_
  obtain ⟨y1, h2, hm⟩ := o1_some hm
  refine w_Sc_freeTogether_31_L10 hi C 200 _ _ _ _ _ h2 ?_
  refine q_iload_n (pc := 54) C dX6_freeTogether_54 rfl 0 rfl ?_
  cases hm
  exact q_iret (pc := 55) C dX6_freeTogether_55
set_option maxRecDepth 100000 in
theorem w_St_countHad_42_L4 {G : Gx} (hi : qinj (gad G)) {X : Cx} (C : QC G X cX7_countHad 3 RX7 1 21 (some .int)) {Q : State → Prop} : ∀ (n : Nat) (S : St) (v1 : Int32) (v2 : Int32) (x1 : Int32), m_St_countHad_L4 42 1 n S v1 v2 = some x1 → QW G X 3 Q 37 [(1, .int x1)] [] S → QW G X 3 Q 4 [(0, .ref (gad G 42)), (1, .int v1), (2, .int v2)] [] S := by
  intro n
  induction n with
  | zero =>
    intro S v1 v2 x1 hm kk
    rw [m_St_countHad_L4] at hm
    cases hm
  | succ n ih =>
    intro S v1 v2 x1 hm kk
    rw [m_St_countHad_L4] at hm
    refine q_iload_n (pc := 4) C dX7_countHad_4 rfl 2 rfl ?_
    refine q_aload_n (pc := 5) C dX7_countHad_5 rfl 0 rfl ?_
    refine q_get (pc := 6) (T := TX1) (v := .ref (gad G 1)) C (by decide) (ce_42 _ _ _) (ci := 1) rfl inlX1 (j := 1) (by decide) rfl tw_67 (Or.inl rfl) dX7_countHad_6 ?_
    refine q_get (pc := 9) (T := TX2) (v := .int (S 1 6)) C (by decide) (ce_1 _ _ _) (ci := 2) rfl inlX2 (j := 6) (by decide) rfl tw_252 (Or.inl rfl) dX7_countHad_9 ?_
    refine q_icmp_ge (pc := 12) (tgt := 37) C dX7_countHad_12 (by decide) (fun c1 => ?_) (fun c1 => ?_)
    · replace hm := hm_t c1 hm
      cases hm
      refine q_lv (lv' := [(1, .int v1)]) [1] rfl ?_
      exact kk
    · replace hm := hm_f c1 hm
      refine q_iload_n (pc := 15) C dX7_countHad_15 rfl 1 rfl ?_
      refine q_aload_n (pc := 16) C dX7_countHad_16 rfl 0 rfl ?_
      refine q_iload_n (pc := 17) C dX7_countHad_17 rfl 2 rfl ?_
      obtain ⟨r1, h1, hm⟩ := o1_some hm
      refine q_callU (pc := 18) (k := 42) (As := [.int v2]) (rest := [.int v1]) (T := TX1) (owner := "Tessera$Store") (x := ⟨"Tessera$Store", "has", "(I)Z"⟩) C (c_St_has_42 hi h1) (by decide) (ce_42 _ _ _) (ci := 1) rfl (Or.inl rfl) tw_253 tw_254 tw_256 tw_258 tw_62 tw_257 (nA := 1) (by decide +kernel) rfl (by decide) (Nat.le_of_ble_eq_true rfl) rfl dX7_countHad_18 ?_
      refine q_if_eq (pc := 21) (tgt := 28) C dX7_countHad_21 (by decide) (fun c2 => ?_) (fun c2 => ?_)
      · replace hm := hm_t c2 hm
        refine q_iconst (pc := 28) (v := (0 : Int32)) C dX7_countHad_28 (by decide) ?_
        refine q_iadd (pc := 29) C dX7_countHad_29 ?_
        refine q_istore_n (pc := 30) (lv' := [(1, .int (v1 + (0 : Int32))), (0, .ref (gad G 42)), (2, .int v2)]) C dX7_countHad_30 rfl (by decide) rfl ?_
        refine q_iinc (pc := 31) (k := 2) (v := (v2 + (1 : Int32))) (lv' := [(2, .int (v2 + (1 : Int32))), (1, .int (v1 + (0 : Int32))), (0, .ref (gad G 42))]) C dX7_countHad_31 rfl rfl (by decide) rfl ?_
        refine q_goto (pc := 34) (tgt := 4) C dX7_countHad_34 (by decide) ?_
        refine q_lv (lv' := [(0, .ref (gad G 42)), (1, .int (v1 + (0 : Int32))), (2, .int (v2 + (1 : Int32)))]) [2, 1, 0] rfl ?_
        exact ih _ _ _ _ hm kk
      · replace hm := hm_f c2 hm
        refine q_iconst (pc := 24) (v := (1 : Int32)) C dX7_countHad_24 (by decide) ?_
        refine q_goto (pc := 25) (tgt := 29) C dX7_countHad_25 (by decide) ?_
        refine q_iadd (pc := 29) C dX7_countHad_29 ?_
        refine q_istore_n (pc := 30) (lv' := [(1, .int (v1 + (1 : Int32))), (0, .ref (gad G 42)), (2, .int v2)]) C dX7_countHad_30 rfl (by decide) rfl ?_
        refine q_iinc (pc := 31) (k := 2) (v := (v2 + (1 : Int32))) (lv' := [(2, .int (v2 + (1 : Int32))), (1, .int (v1 + (1 : Int32))), (0, .ref (gad G 42))]) C dX7_countHad_31 rfl rfl (by decide) rfl ?_
        refine q_goto (pc := 34) (tgt := 4) C dX7_countHad_34 (by decide) ?_
        refine q_lv (lv' := [(0, .ref (gad G 42)), (1, .int (v1 + (1 : Int32))), (2, .int (v2 + (1 : Int32)))]) [2, 1, 0] rfl ?_
        exact ih _ _ _ _ hm kk
set_option maxRecDepth 100000 in
theorem c_St_countHad_42 {G : Gx} (hi : qinj (gad G)) {S : St}  {zr : Int32} (hm : m_St_countHad 42 1 S  = some zr) : QMet G yX7_countHad cX7_countHad 3 (some .int) 1 21 [.ref (gad G 42)] S (some (.int zr)) S := by
  refine q_entry (by decide +kernel) rfl hi (Nat.le_of_ble_eq_true rfl) ?_
  intro X C
  refine q_lv (lv' := [(0, .ref (gad G 42))]) [0] rfl ?_
  unfold m_St_countHad at hm
  refine q_iconst (pc := 0) (v := (0 : Int32)) C dX7_countHad_0 (by decide) ?_
  refine q_istore_n (pc := 1) (lv' := [(1, .int (0 : Int32)), (0, .ref (gad G 42))]) C dX7_countHad_1 rfl (by decide) rfl ?_
  refine q_iconst (pc := 2) (v := (0 : Int32)) C dX7_countHad_2 (by decide) ?_
  refine q_istore_n (pc := 3) (lv' := [(2, .int (0 : Int32)), (1, .int (0 : Int32)), (0, .ref (gad G 42))]) C dX7_countHad_3 rfl (by decide) rfl ?_
  refine q_lv (lv' := [(0, .ref (gad G 42)), (1, .int (0 : Int32)), (2, .int (0 : Int32))]) [2, 1, 0] rfl ?_
  obtain ⟨y1, h1, hm⟩ := o1_some hm
  refine w_St_countHad_42_L4 hi C 200 _ _ _ _ h1 ?_
  refine q_iload_n (pc := 37) C dX7_countHad_37 rfl 0 rfl ?_
  cases hm
  exact q_iret (pc := 38) C dX7_countHad_38
set_option maxRecDepth 100000 in
theorem w_St_wordsHad_42_L4 {G : Gx} (hi : qinj (gad G)) {X : Cx} (C : QC G X cX7_wordsHad 3 RX7 1 21 (some .int)) {Q : State → Prop} : ∀ (n : Nat) (S : St) (v1 : Int32) (v2 : Int32) (x1 : Int32), m_St_wordsHad_L4 42 1 n S v1 v2 = some x1 → QW G X 3 Q 44 [(1, .int x1)] [] S → QW G X 3 Q 4 [(0, .ref (gad G 42)), (1, .int v1), (2, .int v2)] [] S := by
  intro n
  induction n with
  | zero =>
    intro S v1 v2 x1 hm kk
    rw [m_St_wordsHad_L4] at hm
    cases hm
  | succ n ih =>
    intro S v1 v2 x1 hm kk
    rw [m_St_wordsHad_L4] at hm
    refine q_iload_n (pc := 4) C dX7_wordsHad_4 rfl 2 rfl ?_
    refine q_aload_n (pc := 5) C dX7_wordsHad_5 rfl 0 rfl ?_
    refine q_get (pc := 6) (T := TX1) (v := .ref (gad G 1)) C (by decide) (ce_42 _ _ _) (ci := 1) rfl inlX1 (j := 1) (by decide) rfl tw_67 (Or.inl rfl) dX7_wordsHad_6 ?_
    refine q_get (pc := 9) (T := TX2) (v := .int (S 1 6)) C (by decide) (ce_1 _ _ _) (ci := 2) rfl inlX2 (j := 6) (by decide) rfl tw_252 (Or.inl rfl) dX7_wordsHad_9 ?_
    refine q_icmp_ge (pc := 12) (tgt := 44) C dX7_wordsHad_12 (by decide) (fun c1 => ?_) (fun c1 => ?_)
    · replace hm := hm_t c1 hm
      cases hm
      refine q_lv (lv' := [(1, .int v1)]) [1] rfl ?_
      exact kk
    · replace hm := hm_f c1 hm
      refine q_iload_n (pc := 15) C dX7_wordsHad_15 rfl 1 rfl ?_
      refine q_aload_n (pc := 16) C dX7_wordsHad_16 rfl 0 rfl ?_
      refine q_iload_n (pc := 17) C dX7_wordsHad_17 rfl 2 rfl ?_
      obtain ⟨r1, h1, hm⟩ := o1_some hm
      refine q_callU (pc := 18) (k := 42) (As := [.int v2]) (rest := [.int v1]) (T := TX1) (owner := "Tessera$Store") (x := ⟨"Tessera$Store", "has", "(I)Z"⟩) C (c_St_has_42 hi h1) (by decide) (ce_42 _ _ _) (ci := 1) rfl (Or.inl rfl) tw_253 tw_254 tw_256 tw_258 tw_62 tw_257 (nA := 1) (by decide +kernel) rfl (by decide) (Nat.le_of_ble_eq_true rfl) rfl dX7_wordsHad_18 ?_
      refine q_if_eq (pc := 21) (tgt := 35) C dX7_wordsHad_21 (by decide) (fun c2 => ?_) (fun c2 => ?_)
      · replace hm := hm_t c2 hm
        refine q_iconst (pc := 35) (v := (0 : Int32)) C dX7_wordsHad_35 (by decide) ?_
        refine q_iadd (pc := 36) C dX7_wordsHad_36 ?_
        refine q_istore_n (pc := 37) (lv' := [(1, .int (v1 + (0 : Int32))), (0, .ref (gad G 42)), (2, .int v2)]) C dX7_wordsHad_37 rfl (by decide) rfl ?_
        refine q_iinc (pc := 38) (k := 2) (v := (v2 + (1 : Int32))) (lv' := [(2, .int (v2 + (1 : Int32))), (1, .int (v1 + (0 : Int32))), (0, .ref (gad G 42))]) C dX7_wordsHad_38 rfl rfl (by decide) rfl ?_
        refine q_goto (pc := 41) (tgt := 4) C dX7_wordsHad_41 (by decide) ?_
        refine q_lv (lv' := [(0, .ref (gad G 42)), (1, .int (v1 + (0 : Int32))), (2, .int (v2 + (1 : Int32)))]) [2, 1, 0] rfl ?_
        exact ih _ _ _ _ hm kk
      · replace hm := hm_f c2 hm
        refine q_aload_n (pc := 24) C dX7_wordsHad_24 rfl 0 rfl ?_
        refine q_get (pc := 25) (T := TX1) (v := .ref (gad G 1)) C (by decide) (ce_42 _ _ _) (ci := 1) rfl inlX1 (j := 1) (by decide) rfl tw_67 (Or.inl rfl) dX7_wordsHad_25 ?_
        refine q_iload_n (pc := 28) C dX7_wordsHad_28 rfl 2 rfl ?_
        obtain ⟨r2, h2, hm⟩ := o1_some hm
        refine q_callV (pc := 29) (k := 1) (As := [.int v2]) (rest := [.int v1]) (T := TX2) C (c_Gr_wordsOf hi h2) (by decide) (ce_1 _ _ _) (ci := 2) rfl tw_416 tw_229 tw_230 tw_13 tw_231 (nA := 1) (by decide +kernel) rfl (by decide) (Nat.le_of_ble_eq_true rfl) rfl dX7_wordsHad_29 ?_
        refine q_goto (pc := 32) (tgt := 36) C dX7_wordsHad_32 (by decide) ?_
        refine q_iadd (pc := 36) C dX7_wordsHad_36 ?_
        refine q_istore_n (pc := 37) (lv' := [(1, .int (v1 + r2)), (0, .ref (gad G 42)), (2, .int v2)]) C dX7_wordsHad_37 rfl (by decide) rfl ?_
        refine q_iinc (pc := 38) (k := 2) (v := (v2 + (1 : Int32))) (lv' := [(2, .int (v2 + (1 : Int32))), (1, .int (v1 + r2)), (0, .ref (gad G 42))]) C dX7_wordsHad_38 rfl rfl (by decide) rfl ?_
        refine q_goto (pc := 41) (tgt := 4) C dX7_wordsHad_41 (by decide) ?_
        refine q_lv (lv' := [(0, .ref (gad G 42)), (1, .int (v1 + r2)), (2, .int (v2 + (1 : Int32)))]) [2, 1, 0] rfl ?_
        exact ih _ _ _ _ hm kk
set_option maxRecDepth 100000 in
theorem c_St_wordsHad_42 {G : Gx} (hi : qinj (gad G)) {S : St}  {zr : Int32} (hm : m_St_wordsHad 42 1 S  = some zr) : QMet G yX7_wordsHad cX7_wordsHad 3 (some .int) 1 21 [.ref (gad G 42)] S (some (.int zr)) S := by
  refine q_entry (by decide +kernel) rfl hi (Nat.le_of_ble_eq_true rfl) ?_
  intro X C
  refine q_lv (lv' := [(0, .ref (gad G 42))]) [0] rfl ?_
  unfold m_St_wordsHad at hm
  refine q_iconst (pc := 0) (v := (0 : Int32)) C dX7_wordsHad_0 (by decide) ?_
  refine q_istore_n (pc := 1) (lv' := [(1, .int (0 : Int32)), (0, .ref (gad G 42))]) C dX7_wordsHad_1 rfl (by decide) rfl ?_
  refine q_iconst (pc := 2) (v := (0 : Int32)) C dX7_wordsHad_2 (by decide) ?_
  refine q_istore_n (pc := 3) (lv' := [(2, .int (0 : Int32)), (1, .int (0 : Int32)), (0, .ref (gad G 42))]) C dX7_wordsHad_3 rfl (by decide) rfl ?_
  refine q_lv (lv' := [(0, .ref (gad G 42)), (1, .int (0 : Int32)), (2, .int (0 : Int32))]) [2, 1, 0] rfl ?_
  obtain ⟨y1, h1, hm⟩ := o1_some hm
  refine w_St_wordsHad_42_L4 hi C 200 _ _ _ _ h1 ?_
  refine q_iload_n (pc := 44) C dX7_wordsHad_44 rfl 0 rfl ?_
  cases hm
  exact q_iret (pc := 45) C dX7_wordsHad_45
set_option maxRecDepth 100000 in
theorem w_St_countUnreached_42_L4 {G : Gx} (hi : qinj (gad G)) {X : Cx} (C : QC G X cX7_countUnreached 3 RX7 1 21 (some .int)) {Q : State → Prop} : ∀ (n : Nat) (S : St) (v1 : Int32) (v2 : Int32) (x1 : Int32), m_St_countUnreached_L4 42 1 n S v1 v2 = some x1 → QW G X 3 Q 48 [(1, .int x1)] [] S → QW G X 3 Q 4 [(0, .ref (gad G 42)), (1, .int v1), (2, .int v2)] [] S := by
  intro n
  induction n with
  | zero =>
    intro S v1 v2 x1 hm kk
    rw [m_St_countUnreached_L4] at hm
    cases hm
  | succ n ih =>
    intro S v1 v2 x1 hm kk
    rw [m_St_countUnreached_L4] at hm
    refine q_iload_n (pc := 4) C dX7_countUnreached_4 rfl 2 rfl ?_
    refine q_aload_n (pc := 5) C dX7_countUnreached_5 rfl 0 rfl ?_
    refine q_get (pc := 6) (T := TX1) (v := .ref (gad G 1)) C (by decide) (ce_42 _ _ _) (ci := 1) rfl inlX1 (j := 1) (by decide) rfl tw_67 (Or.inl rfl) dX7_countUnreached_6 ?_
    refine q_get (pc := 9) (T := TX2) (v := .int (S 1 6)) C (by decide) (ce_1 _ _ _) (ci := 2) rfl inlX2 (j := 6) (by decide) rfl tw_252 (Or.inl rfl) dX7_countUnreached_9 ?_
    refine q_icmp_ge (pc := 12) (tgt := 48) C dX7_countUnreached_12 (by decide) (fun c1 => ?_) (fun c1 => ?_)
    · replace hm := hm_t c1 hm
      cases hm
      refine q_lv (lv' := [(1, .int v1)]) [1] rfl ?_
      exact kk
    · replace hm := hm_f c1 hm
      refine q_iload_n (pc := 15) C dX7_countUnreached_15 rfl 1 rfl ?_
      refine q_aload_n (pc := 16) C dX7_countUnreached_16 rfl 0 rfl ?_
      refine q_iload_n (pc := 17) C dX7_countUnreached_17 rfl 2 rfl ?_
      obtain ⟨r1, h1, hm⟩ := o1_some hm
      refine q_callU (pc := 18) (k := 42) (As := [.int v2]) (rest := [.int v1]) (T := TX1) (owner := "Tessera$Store") (x := ⟨"Tessera$Store", "has", "(I)Z"⟩) C (c_St_has_42 hi h1) (by decide) (ce_42 _ _ _) (ci := 1) rfl (Or.inl rfl) tw_253 tw_254 tw_256 tw_258 tw_62 tw_257 (nA := 1) (by decide +kernel) rfl (by decide) (Nat.le_of_ble_eq_true rfl) rfl dX7_countUnreached_18 ?_
      refine q_if_eq (pc := 21) (tgt := 39) C dX7_countUnreached_21 (by decide) (fun c2 => ?_) (fun c2 => ?_)
      · replace hm := hm_t c2 hm
        refine q_iconst (pc := 39) (v := (0 : Int32)) C dX7_countUnreached_39 (by decide) ?_
        refine q_iadd (pc := 40) C dX7_countUnreached_40 ?_
        refine q_istore_n (pc := 41) (lv' := [(1, .int (v1 + (0 : Int32))), (0, .ref (gad G 42)), (2, .int v2)]) C dX7_countUnreached_41 rfl (by decide) rfl ?_
        refine q_iinc (pc := 42) (k := 2) (v := (v2 + (1 : Int32))) (lv' := [(2, .int (v2 + (1 : Int32))), (1, .int (v1 + (0 : Int32))), (0, .ref (gad G 42))]) C dX7_countUnreached_42 rfl rfl (by decide) rfl ?_
        refine q_goto (pc := 45) (tgt := 4) C dX7_countUnreached_45 (by decide) ?_
        refine q_lv (lv' := [(0, .ref (gad G 42)), (1, .int (v1 + (0 : Int32))), (2, .int (v2 + (1 : Int32)))]) [2, 1, 0] rfl ?_
        exact ih _ _ _ _ hm kk
      · replace hm := hm_f c2 hm
        refine q_aload_n (pc := 24) C dX7_countUnreached_24 rfl 0 rfl ?_
        refine q_get (pc := 25) (T := TX1) (v := .ref (gad G 1)) C (by decide) (ce_42 _ _ _) (ci := 1) rfl inlX1 (j := 1) (by decide) rfl tw_67 (Or.inl rfl) dX7_countUnreached_25 ?_
        refine q_iload_n (pc := 28) C dX7_countUnreached_28 rfl 2 rfl ?_
        obtain ⟨r2, h2, hm⟩ := o1_some hm
        refine q_callV (pc := 29) (k := 1) (As := [.int v2]) (rest := [.int v1]) (T := TX2) C (c_Gr_isReached hi h2) (by decide) (ce_1 _ _ _) (ci := 2) rfl tw_525 tw_526 tw_527 tw_13 tw_528 (nA := 1) (by decide +kernel) rfl (by decide) (Nat.le_of_ble_eq_true rfl) rfl dX7_countUnreached_29 ?_
        refine q_if_ne (pc := 32) (tgt := 39) C dX7_countUnreached_32 (by decide) (fun c3 => ?_) (fun c3 => ?_)
        · replace hm := hm_f c3 hm
          refine q_iconst (pc := 39) (v := (0 : Int32)) C dX7_countUnreached_39 (by decide) ?_
          refine q_iadd (pc := 40) C dX7_countUnreached_40 ?_
          refine q_istore_n (pc := 41) (lv' := [(1, .int (v1 + (0 : Int32))), (0, .ref (gad G 42)), (2, .int v2)]) C dX7_countUnreached_41 rfl (by decide) rfl ?_
          refine q_iinc (pc := 42) (k := 2) (v := (v2 + (1 : Int32))) (lv' := [(2, .int (v2 + (1 : Int32))), (1, .int (v1 + (0 : Int32))), (0, .ref (gad G 42))]) C dX7_countUnreached_42 rfl rfl (by decide) rfl ?_
          refine q_goto (pc := 45) (tgt := 4) C dX7_countUnreached_45 (by decide) ?_
          refine q_lv (lv' := [(0, .ref (gad G 42)), (1, .int (v1 + (0 : Int32))), (2, .int (v2 + (1 : Int32)))]) [2, 1, 0] rfl ?_
          exact ih _ _ _ _ hm kk
        · replace hm := hm_t c3 hm
          refine q_iconst (pc := 35) (v := (1 : Int32)) C dX7_countUnreached_35 (by decide) ?_
          refine q_goto (pc := 36) (tgt := 40) C dX7_countUnreached_36 (by decide) ?_
          refine q_iadd (pc := 40) C dX7_countUnreached_40 ?_
          refine q_istore_n (pc := 41) (lv' := [(1, .int (v1 + (1 : Int32))), (0, .ref (gad G 42)), (2, .int v2)]) C dX7_countUnreached_41 rfl (by decide) rfl ?_
          refine q_iinc (pc := 42) (k := 2) (v := (v2 + (1 : Int32))) (lv' := [(2, .int (v2 + (1 : Int32))), (1, .int (v1 + (1 : Int32))), (0, .ref (gad G 42))]) C dX7_countUnreached_42 rfl rfl (by decide) rfl ?_
          refine q_goto (pc := 45) (tgt := 4) C dX7_countUnreached_45 (by decide) ?_
          refine q_lv (lv' := [(0, .ref (gad G 42)), (1, .int (v1 + (1 : Int32))), (2, .int (v2 + (1 : Int32)))]) [2, 1, 0] rfl ?_
          exact ih _ _ _ _ hm kk
set_option maxRecDepth 100000 in
theorem c_St_countUnreached_42 {G : Gx} (hi : qinj (gad G)) {S : St}  {zr : Int32} (hm : m_St_countUnreached 42 1 S  = some zr) : QMet G yX7_countUnreached cX7_countUnreached 3 (some .int) 1 21 [.ref (gad G 42)] S (some (.int zr)) S := by
  refine q_entry (by decide +kernel) rfl hi (Nat.le_of_ble_eq_true rfl) ?_
  intro X C
  refine q_lv (lv' := [(0, .ref (gad G 42))]) [0] rfl ?_
  unfold m_St_countUnreached at hm
  refine q_iconst (pc := 0) (v := (0 : Int32)) C dX7_countUnreached_0 (by decide) ?_
  refine q_istore_n (pc := 1) (lv' := [(1, .int (0 : Int32)), (0, .ref (gad G 42))]) C dX7_countUnreached_1 rfl (by decide) rfl ?_
  refine q_iconst (pc := 2) (v := (0 : Int32)) C dX7_countUnreached_2 (by decide) ?_
  refine q_istore_n (pc := 3) (lv' := [(2, .int (0 : Int32)), (1, .int (0 : Int32)), (0, .ref (gad G 42))]) C dX7_countUnreached_3 rfl (by decide) rfl ?_
  refine q_lv (lv' := [(0, .ref (gad G 42)), (1, .int (0 : Int32)), (2, .int (0 : Int32))]) [2, 1, 0] rfl ?_
  obtain ⟨y1, h1, hm⟩ := o1_some hm
  refine w_St_countUnreached_42_L4 hi C 200 _ _ _ _ h1 ?_
  refine q_iload_n (pc := 48) C dX7_countUnreached_48 rfl 0 rfl ?_
  cases hm
  exact q_iret (pc := 49) C dX7_countUnreached_49
set_option maxRecDepth 100000 in
theorem w_Sc_freeTogether_42_L10 {G : Gx} (hi : qinj (gad G)) {X : Cx} (C : QC G X cX6_freeTogether 4 RX6 4 87 (some .int)) {Q : State → Prop} : ∀ (n : Nat) (S : St) (v1 : Int32) (v2 : Int32) (v3 : Int32) (x1 : Int32), m_Sc_freeTogether_L10 42 n S v1 v2 v3 = some x1 → QW G X 4 Q 54 [(1, .int x1)] [] S → QW G X 4 Q 10 [(0, .ref (gad G 42)), (1, .int v1), (2, .int v2), (3, .int v3)] [] S := by
  intro n
  induction n with
  | zero =>
    intro S v1 v2 v3 x1 hm kk
    rw [m_Sc_freeTogether_L10] at hm
    cases hm
  | succ n ih =>
    intro S v1 v2 v3 x1 hm kk
    rw [m_Sc_freeTogether_L10] at hm
    refine q_iload_n (pc := 10) C dX6_freeTogether_10 rfl 3 rfl ?_
    refine q_aload_n (pc := 11) C dX6_freeTogether_11 rfl 0 rfl ?_
    refine q_get (pc := 12) (T := TX1) (v := .int (S 42 2)) C (by decide) (ce_42 _ _ _) (ci := 1) rfl inlX1 (j := 2) (by decide) rfl tw_320 (Or.inr tw_321) dX6_freeTogether_12 ?_
    refine q_icmp_ge (pc := 15) (tgt := 54) C dX6_freeTogether_15 (by decide) (fun c1 => ?_) (fun c1 => ?_)
    · replace hm := hm_t c1 hm
      cases hm
      refine q_lv (lv' := [(1, .int v1)]) [1] rfl ?_
      exact kk
    · replace hm := hm_f c1 hm
      refine q_iload_n (pc := 18) C dX6_freeTogether_18 rfl 3 rfl ?_
      refine q_sipush (pc := 19) (v := (160 : Int32)) C dX6_freeTogether_19 (by decide) ?_
      refine q_icmp_ge (pc := 22) (tgt := 54) C dX6_freeTogether_22 (by decide) (fun c2 => ?_) (fun c2 => ?_)
      · replace hm := hm_t c2 hm
        cases hm
        refine q_lv (lv' := [(1, .int v1)]) [1] rfl ?_
        exact kk
      · replace hm := hm_f c2 hm
        refine q_aload_n (pc := 25) C dX6_freeTogether_25 rfl 0 rfl ?_
        refine q_get (pc := 26) (T := TX1) (v := .ref (gad G 45)) C (by decide) (ce_42 _ _ _) (ci := 1) rfl inlX1 (j := 0) (by decide) rfl tw_80 (Or.inl rfl) dX6_freeTogether_26 ?_
        refine q_iload_n (pc := 29) C dX6_freeTogether_29 rfl 3 rfl ?_
        obtain ⟨b1, hm⟩ := oi_some hm
        refine q_zald (pc := 30) C (by decide) (ce_45 _ _ _) (ty_45 _) b1 dX6_freeTogether_30 ?_
        refine q_if_eq (pc := 31) (tgt := 38) C dX6_freeTogether_31 (by decide) (fun c3 => ?_) (fun c3 => ?_)
        · replace hm := hm_t c3 hm
          refine q_iload_n (pc := 38) C dX6_freeTogether_38 rfl 2 rfl ?_
          refine q_iconst (pc := 39) (v := (1 : Int32)) C dX6_freeTogether_39 (by decide) ?_
          refine q_iadd (pc := 40) C dX6_freeTogether_40 ?_
          refine q_istore_n (pc := 41) (lv' := [(2, .int (v2 + (1 : Int32))), (0, .ref (gad G 42)), (1, .int v1), (3, .int v3)]) C dX6_freeTogether_41 rfl (by decide) rfl ?_
          refine q_iload_n (pc := 42) C dX6_freeTogether_42 rfl 2 rfl ?_
          refine q_iload_n (pc := 43) C dX6_freeTogether_43 rfl 0 rfl ?_
          refine q_max (pc := 44) C tw_746 tw_643 tw_644 tw_645 (by decide) (Nat.le_of_ble_eq_true rfl) dX6_freeTogether_44 ?_
          refine q_istore_n (pc := 47) (lv' := [(1, .int (if v1 < (v2 + (1 : Int32)) then (v2 + (1 : Int32)) else v1)), (2, .int (v2 + (1 : Int32))), (0, .ref (gad G 42)), (3, .int v3)]) C dX6_freeTogether_47 rfl (by decide) rfl ?_
          refine q_iinc (pc := 48) (k := 3) (v := (v3 + (1 : Int32))) (lv' := [(3, .int (v3 + (1 : Int32))), (1, .int (if v1 < (v2 + (1 : Int32)) then (v2 + (1 : Int32)) else v1)), (2, .int (v2 + (1 : Int32))), (0, .ref (gad G 42))]) C dX6_freeTogether_48 rfl rfl (by decide) rfl ?_
          refine q_goto (pc := 51) (tgt := 10) C dX6_freeTogether_51 (by decide) ?_
          refine q_lv (lv' := [(0, .ref (gad G 42)), (1, .int (if v1 < (v2 + (1 : Int32)) then (v2 + (1 : Int32)) else v1)), (2, .int (v2 + (1 : Int32))), (3, .int (v3 + (1 : Int32)))]) [3, 1, 2, 0] rfl ?_
          exact ih _ _ _ _ _ hm kk
        · replace hm := hm_f c3 hm
          refine q_iconst (pc := 34) (v := (0 : Int32)) C dX6_freeTogether_34 (by decide) ?_
          refine q_goto (pc := 35) (tgt := 41) C dX6_freeTogether_35 (by decide) ?_
          refine q_istore_n (pc := 41) (lv' := [(2, .int (0 : Int32)), (0, .ref (gad G 42)), (1, .int v1), (3, .int v3)]) C dX6_freeTogether_41 rfl (by decide) rfl ?_
          refine q_iload_n (pc := 42) C dX6_freeTogether_42 rfl 2 rfl ?_
          refine q_iload_n (pc := 43) C dX6_freeTogether_43 rfl 0 rfl ?_
          refine q_max (pc := 44) C tw_746 tw_643 tw_644 tw_645 (by decide) (Nat.le_of_ble_eq_true rfl) dX6_freeTogether_44 ?_
          refine q_istore_n (pc := 47) (lv' := [(1, .int (if v1 < (0 : Int32) then (0 : Int32) else v1)), (2, .int (0 : Int32)), (0, .ref (gad G 42)), (3, .int v3)]) C dX6_freeTogether_47 rfl (by decide) rfl ?_
          refine q_iinc (pc := 48) (k := 3) (v := (v3 + (1 : Int32))) (lv' := [(3, .int (v3 + (1 : Int32))), (1, .int (if v1 < (0 : Int32) then (0 : Int32) else v1)), (2, .int (0 : Int32)), (0, .ref (gad G 42))]) C dX6_freeTogether_48 rfl rfl (by decide) rfl ?_
          refine q_goto (pc := 51) (tgt := 10) C dX6_freeTogether_51 (by decide) ?_
          refine q_lv (lv' := [(0, .ref (gad G 42)), (1, .int (if v1 < (0 : Int32) then (0 : Int32) else v1)), (2, .int (0 : Int32)), (3, .int (v3 + (1 : Int32)))]) [3, 1, 2, 0] rfl ?_
          exact ih _ _ _ _ _ hm kk
set_option maxRecDepth 100000 in
theorem c_Sc_freeTogether_42 {G : Gx} (hi : qinj (gad G)) {S : St}  {zr : Int32} {zS : St} (hm : m_Sc_freeTogether 42 S  = some (zr, zS)) : QMet G yX6_freeTogether cX6_freeTogether 4 (some .int) 4 87 [.ref (gad G 42)] S (some (.int zr)) zS := by
  refine q_entry (by decide +kernel) rfl hi (Nat.le_of_ble_eq_true rfl) ?_
  intro X C
  refine q_lv (lv' := [(0, .ref (gad G 42))]) [0] rfl ?_
  unfold m_Sc_freeTogether at hm
  refine q_iconst (pc := 0) (v := (0 : Int32)) C dX6_freeTogether_0 (by decide) ?_
  refine q_istore_n (pc := 1) (lv' := [(1, .int (0 : Int32)), (0, .ref (gad G 42))]) C dX6_freeTogether_1 rfl (by decide) rfl ?_
  refine q_iconst (pc := 2) (v := (0 : Int32)) C dX6_freeTogether_2 (by decide) ?_
  refine q_istore_n (pc := 3) (lv' := [(2, .int (0 : Int32)), (1, .int (0 : Int32)), (0, .ref (gad G 42))]) C dX6_freeTogether_3 rfl (by decide) rfl ?_
  refine q_aload_n (pc := 4) C dX6_freeTogether_4 rfl 2 rfl ?_
  obtain ⟨S1, h1, hm⟩ := o1_some hm
  refine q_callU (pc := 5) (k := 42) (As := []) (rest := []) (T := TX1) (owner := "Tessera$Scattered") (x := ⟨"Tessera$Scattered", "markTaken", "()V"⟩) C (c_Sc_markTaken_42 hi h1) (by decide) (ce_42 _ _ _) (ci := 1) rfl (Or.inl rfl) tw_323 tw_324 tw_326 tw_325 tw_78 tw_327 (nA := 0) (by decide +kernel) rfl (by decide) (Nat.le_of_ble_eq_true rfl) rfl dX6_freeTogether_5 ?_
  refine q_iconst (pc := 8) (v := (0 : Int32)) C dX6_freeTogether_8 (by decide) ?_
  refine q_istore_n (pc := 9) (lv' := [(3, .int (0 : Int32)), (2, .int (0 : Int32)), (1, .int (0 : Int32)), (0, .ref (gad G 42))]) C dX6_freeTogether_9 rfl (by decide) rfl ?_
  refine q_lv (lv' := [(0, .ref (gad G 42)), (1, .int (0 : Int32)), (2, .int (0 : Int32)), (3, .int (0 : Int32))]) [3, 2, 1, 0] rfl ?_
  obtain ⟨y1, h2, hm⟩ := o1_some hm
  refine w_Sc_freeTogether_42_L10 hi C 200 _ _ _ _ _ h2 ?_
  refine q_iload_n (pc := 54) C dX6_freeTogether_54 rfl 0 rfl ?_
  cases hm
  exact q_iret (pc := 55) C dX6_freeTogether_55
