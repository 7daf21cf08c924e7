set_option maxRecDepth 100000 in
theorem c_Te_told {G : Gx} (hi : qinj (gad G)) {S : St} {a1 : Int32} {a2 : Int32} {zr : Int32} {zS : St} (hm : m_Te_told S a1 a2 = some (zr, zS)) : QMet G yX8_told cX8_told 4 (some .int) 5 110 [.ref (gad G 0), .int a1, .int a2] S (some (.int zr)) zS := by
  refine q_entry (by decide +kernel) rfl hi (Nat.le_of_ble_eq_true rfl) ?_
  intro X C
  refine q_lv (lv' := [(0, .ref (gad G 0)), (1, .int a1), (2, .int a2)]) [0, 1, 2] rfl ?_
  unfold m_Te_told at hm
  refine q_aload_n (pc := 0) C dX8_told_0 rfl 0 rfl ?_
  refine q_iload_n (pc := 1) C dX8_told_1 rfl 1 rfl ?_
  obtain ⟨k1, h1, hm⟩ := o1_some hm
  refine q_callV (pc := 2) (k := 0) (As := [.int a1]) (rest := []) (T := TX8) C (c_Te_storeOf hi h1) (by decide) (ce_0 _ _ _) (ci := 6) rfl tw_716 tw_717 tw_718 tw_2 tw_719 (nA := 1) (by decide +kernel) rfl (by decide) (Nat.le_of_ble_eq_true rfl) rfl dX8_told_2 ?_
  by_cases c33 : k1 = 12
  · replace hm := hm_t c33 hm
    subst c33
    refine q_astore_n (pc := 5) (lv' := [(3, .ref (gad G 12)), (0, .ref (gad G 0)), (1, .int a1), (2, .int a2)]) C dX8_told_5 rfl (by decide) rfl ?_
    refine q_iload_n (pc := 6) C dX8_told_6 rfl 3 rfl ?_
    refine q_bipush (pc := 7) (v := (7 : Int32)) C dX8_told_7 (by decide) ?_
    obtain ⟨u1, h2, hm⟩ := o1_some hm
    refine q_callS (pc := 9) (As := [.int a2, .int (7 : Int32)]) (rest := []) C (c_Te_checkWhat hi h2) tw_667 tw_668 tw_2 tw_669 (nA := 2) (by decide +kernel) rfl (by decide) (Nat.le_of_ble_eq_true rfl) rfl dX8_told_9 ?_
    refine q_iload_n (pc := 12) C dX8_told_12 rfl 3 rfl ?_
    by_cases c1 : a2 = (0 : Int32)
    · replace hm := hm_t c1 hm
      refine q_tableIn (pc := 13) (tgt := 56) C dX8_told_13 (by rw [c1]; decide) (by rw [c1]; decide) (by rw [c1]; rfl) (by decide) ?_
      refine q_aload_n (pc := 56) C dX8_told_56 rfl 0 rfl ?_
      obtain ⟨r1, h3, hm⟩ := o1_some hm
      refine q_callU (pc := 57) (k := 12) (As := []) (rest := []) (T := TX0) (owner := "Tessera$Store") (x := ⟨"Tessera$Store", "countHad", "()I"⟩) C (c_St_countHad_12 hi h3) (by decide) (ce_12 _ _ _) (ci := 0) rfl (Or.inl rfl) tw_720 tw_721 tw_250 tw_722 tw_62 tw_251 (nA := 0) (by decide +kernel) rfl (by decide) (Nat.le_of_ble_eq_true rfl) rfl dX8_told_57 ?_
      cases hm
      exact q_iret (pc := 60) C dX8_told_60
    replace hm := hm_f c1 hm
    by_cases c2 : a2 = (1 : Int32)
    · replace hm := hm_t c2 hm
      refine q_tableIn (pc := 13) (tgt := 61) C dX8_told_13 (by rw [c2]; decide) (by rw [c2]; decide) (by rw [c2]; rfl) (by decide) ?_
      refine q_aload_n (pc := 61) C dX8_told_61 rfl 0 rfl ?_
      obtain ⟨r2, h4, hm⟩ := o1_some hm
      refine q_callU (pc := 62) (k := 12) (As := []) (rest := []) (T := TX0) (owner := "Tessera$Store") (x := ⟨"Tessera$Store", "wordsHad", "()I"⟩) C (c_St_wordsHad_12 hi h4) (by decide) (ce_12 _ _ _) (ci := 0) rfl (Or.inl rfl) tw_726 tw_727 tw_414 tw_728 tw_62 tw_415 (nA := 0) (by decide +kernel) rfl (by decide) (Nat.le_of_ble_eq_true rfl) rfl dX8_told_62 ?_
      cases hm
      exact q_iret (pc := 65) C dX8_told_65
    replace hm := hm_f c2 hm
    by_cases c3 : a2 = (2 : Int32)
    · replace hm := hm_t c3 hm
      refine q_tableIn (pc := 13) (tgt := 66) C dX8_told_13 (by rw [c3]; decide) (by rw [c3]; decide) (by rw [c3]; rfl) (by decide) ?_
      refine q_aload_n (pc := 66) C dX8_told_66 rfl 0 rfl ?_
      obtain ⟨r3, h5, hm⟩ := o1_some hm
      refine q_callU (pc := 67) (k := 12) (As := []) (rest := []) (T := TX0) (owner := "Tessera$Store") (x := ⟨"Tessera$Store", "countUnreached", "()I"⟩) C (c_St_countUnreached_12 hi h5) (by decide) (ce_12 _ _ _) (ci := 0) rfl (Or.inl rfl) tw_732 tw_733 tw_735 tw_734 tw_62 tw_736 (nA := 0) (by decide +kernel) rfl (by decide) (Nat.le_of_ble_eq_true rfl) rfl dX8_told_67 ?_
      cases hm
      exact q_iret (pc := 70) C dX8_told_70
    replace hm := hm_f c3 hm
    by_cases c4 : a2 = (3 : Int32)
    · replace hm := hm_t c4 hm
      refine q_tableIn (pc := 13) (tgt := 71) C dX8_told_13 (by rw [c4]; decide) (by rw [c4]; decide) (by rw [c4]; rfl) (by decide) ?_
      refine q_aload_n (pc := 71) C dX8_told_71 rfl 0 rfl ?_
      refine q_get (pc := 72) (T := TX0) (v := .int (S 12 2)) C (by decide) (ce_12 _ _ _) (ci := 0) rfl inlX0 (j := 2) (by decide) rfl tw_713 (Or.inl rfl) dX8_told_72 ?_
      cases hm
      exact q_iret (pc := 75) C dX8_told_75
    replace hm := hm_f c4 hm
    by_cases c5 : a2 = (4 : Int32)
    · replace hm := hm_t c5 hm
      refine q_tableIn (pc := 13) (tgt := 76) C dX8_told_13 (by rw [c5]; decide) (by rw [c5]; decide) (by rw [c5]; rfl) (by decide) ?_
      refine q_aload_n (pc := 76) C dX8_told_76 rfl 0 rfl ?_
      refine q_get (pc := 77) (T := TX0) (v := .int (S 12 3)) C (by decide) (ce_12 _ _ _) (ci := 0) rfl inlX0 (j := 3) (by decide) rfl tw_714 (Or.inl rfl) dX8_told_77 ?_
      cases hm
      exact q_iret (pc := 80) C dX8_told_80
    replace hm := hm_f c5 hm
    by_cases c6 : a2 = (5 : Int32)
    · replace hm := hm_t c6 hm
      refine q_tableIn (pc := 13) (tgt := 81) C dX8_told_13 (by rw [c6]; decide) (by rw [c6]; decide) (by rw [c6]; rfl) (by decide) ?_
      refine q_aload_n (pc := 81) C dX8_told_81 rfl 0 rfl ?_
      refine q_get (pc := 82) (T := TX0) (v := .int (S 12 5)) C (by decide) (ce_12 _ _ _) (ci := 0) rfl inlX0 (j := 5) (by decide) rfl tw_199 (Or.inl rfl) dX8_told_82 ?_
      refine q_if_eq (pc := 85) (tgt := 92) C dX8_told_85 (by decide) (fun c7 => ?_) (fun c7 => ?_)
      · replace hm := hm_t c7 hm
        refine q_aload_n (pc := 92) C dX8_told_92 rfl 0 rfl ?_
        obtain ⟨r4, h6, hm⟩ := o1_some hm
        refine q_callU (pc := 93) (k := 12) (As := []) (rest := []) (T := TX0) (owner := "Tessera$Store") (x := ⟨"Tessera$Store", "freeTogether", "()I"⟩) C (c_Cop_freeTogether hi h6) (by decide) (ce_12 _ _ _) (ci := 0) rfl (Or.inr (Or.inl (by decide))) tw_740 tw_741 tw_233 tw_742 tw_26 tw_235 (nA := 0) (by decide +kernel) rfl (by decide) (Nat.le_of_ble_eq_true rfl) rfl dX8_told_93 ?_
        cases hm
        exact q_iret (pc := 96) C dX8_told_96
      · replace hm := hm_f c7 hm
        refine q_iconst (pc := 88) (v := (0 : Int32)) C dX8_told_88 (by decide) ?_
        refine q_goto (pc := 89) (tgt := 96) C dX8_told_89 (by decide) ?_
        cases hm
        exact q_iret (pc := 96) C dX8_told_96
    replace hm := hm_f c6 hm
    by_cases c8 : a2 = (6 : Int32)
    · replace hm := hm_t c8 hm
      refine q_tableIn (pc := 13) (tgt := 97) C dX8_told_13 (by rw [c8]; decide) (by rw [c8]; decide) (by rw [c8]; rfl) (by decide) ?_
      refine q_aload_n (pc := 97) C dX8_told_97 rfl 0 rfl ?_
      refine q_get (pc := 98) (T := TX0) (v := .int (S 12 4)) C (by decide) (ce_12 _ _ _) (ci := 0) rfl inlX0 (j := 4) (by decide) rfl tw_715 (Or.inl rfl) dX8_told_98 ?_
      cases hm
      exact q_iret (pc := 101) C dX8_told_101
    replace hm := hm_f c8 hm
    refine q_tableOut (pc := 13) (tgt := 102) C dX8_told_13 (q_out 6 (by decide) [(0 : Int32), (1 : Int32), (2 : Int32), (3 : Int32), (4 : Int32), (5 : Int32), (6 : Int32)] (by decide) (by simp [c1, c2, c3, c4, c5, c6, c8])) (by decide) ?_
    refine q_aload_n (pc := 102) C dX8_told_102 rfl 0 rfl ?_
    refine q_get (pc := 103) (T := TX0) (v := .int (S 12 5)) C (by decide) (ce_12 _ _ _) (ci := 0) rfl inlX0 (j := 5) (by decide) rfl tw_199 (Or.inl rfl) dX8_told_103 ?_
    obtain ⟨r5, h7, hm⟩ := o1_some hm
    refine q_callS (pc := 106) (As := [.int (S 12 5)]) (rest := []) C (c_Te_asNumber hi h7) tw_671 tw_672 tw_2 tw_673 (nA := 1) (by decide +kernel) rfl (by decide) (Nat.le_of_ble_eq_true rfl) rfl dX8_told_106 ?_
    cases hm
    exact q_iret (pc := 109) C dX8_told_109
  replace hm := hm_f c33 hm
  by_cases c34 : k1 = 18
  · replace hm := hm_t c34 hm
    subst c34
    refine q_astore_n (pc := 5) (lv' := [(3, .ref (gad G 18)), (0, .ref (gad G 0)), (1, .int a1), (2, .int a2)]) C dX8_told_5 rfl (by decide) rfl ?_
    refine q_iload_n (pc := 6) C dX8_told_6 rfl 3 rfl ?_
    refine q_bipush (pc := 7) (v := (7 : Int32)) C dX8_told_7 (by decide) ?_
    obtain ⟨u2, h8, hm⟩ := o1_some hm
    refine q_callS (pc := 9) (As := [.int a2, .int (7 : Int32)]) (rest := []) C (c_Te_checkWhat hi h8) tw_667 tw_668 tw_2 tw_669 (nA := 2) (by decide +kernel) rfl (by decide) (Nat.le_of_ble_eq_true rfl) rfl dX8_told_9 ?_
    refine q_iload_n (pc := 12) C dX8_told_12 rfl 3 rfl ?_
    by_cases c9 : a2 = (0 : Int32)
    · replace hm := hm_t c9 hm
      refine q_tableIn (pc := 13) (tgt := 56) C dX8_told_13 (by rw [c9]; decide) (by rw [c9]; decide) (by rw [c9]; rfl) (by decide) ?_
      refine q_aload_n (pc := 56) C dX8_told_56 rfl 0 rfl ?_
      obtain ⟨r6, h9, hm⟩ := o1_some hm
      refine q_callU (pc := 57) (k := 18) (As := []) (rest := []) (T := TX4) (owner := "Tessera$Store") (x := ⟨"Tessera$Store", "countHad", "()I"⟩) C (c_St_countHad_18 hi h9) (by decide) (ce_18 _ _ _) (ci := 4) rfl (Or.inl rfl) tw_720 tw_721 tw_250 tw_725 tw_62 tw_251 (nA := 0) (by decide +kernel) rfl (by decide) (Nat.le_of_ble_eq_true rfl) rfl dX8_told_57 ?_
      cases hm
      exact q_iret (pc := 60) C dX8_told_60
    replace hm := hm_f c9 hm
    by_cases c10 : a2 = (1 : Int32)
    · replace hm := hm_t c10 hm
      refine q_tableIn (pc := 13) (tgt := 61) C dX8_told_13 (by rw [c10]; decide) (by rw [c10]; decide) (by rw [c10]; rfl) (by decide) ?_
      refine q_aload_n (pc := 61) C dX8_told_61 rfl 0 rfl ?_
      obtain ⟨r7, h10, hm⟩ := o1_some hm
      refine q_callU (pc := 62) (k := 18) (As := []) (rest := []) (T := TX4) (owner := "Tessera$Store") (x := ⟨"Tessera$Store", "wordsHad", "()I"⟩) C (c_St_wordsHad_18 hi h10) (by decide) (ce_18 _ _ _) (ci := 4) rfl (Or.inl rfl) tw_726 tw_727 tw_414 tw_731 tw_62 tw_415 (nA := 0) (by decide +kernel) rfl (by decide) (Nat.le_of_ble_eq_true rfl) rfl dX8_told_62 ?_
      cases hm
      exact q_iret (pc := 65) C dX8_told_65
    replace hm := hm_f c10 hm
    by_cases c11 : a2 = (2 : Int32)
    · replace hm := hm_t c11 hm
      refine q_tableIn (pc := 13) (tgt := 66) C dX8_told_13 (by rw [c11]; decide) (by rw [c11]; decide) (by rw [c11]; rfl) (by decide) ?_
      refine q_aload_n (pc := 66) C dX8_told_66 rfl 0 rfl ?_
      obtain ⟨r8, h11, hm⟩ := o1_some hm
      refine q_callU (pc := 67) (k := 18) (As := []) (rest := []) (T := TX4) (owner := "Tessera$Store") (x := ⟨"Tessera$Store", "countUnreached", "()I"⟩) C (c_St_countUnreached_18 hi h11) (by decide) (ce_18 _ _ _) (ci := 4) rfl (Or.inl rfl) tw_732 tw_733 tw_735 tw_739 tw_62 tw_736 (nA := 0) (by decide +kernel) rfl (by decide) (Nat.le_of_ble_eq_true rfl) rfl dX8_told_67 ?_
      cases hm
      exact q_iret (pc := 70) C dX8_told_70
    replace hm := hm_f c11 hm
    by_cases c12 : a2 = (3 : Int32)
    · replace hm := hm_t c12 hm
      refine q_tableIn (pc := 13) (tgt := 71) C dX8_told_13 (by rw [c12]; decide) (by rw [c12]; decide) (by rw [c12]; rfl) (by decide) ?_
      refine q_aload_n (pc := 71) C dX8_told_71 rfl 0 rfl ?_
      refine q_get (pc := 72) (T := TX4) (v := .int (S 18 2)) C (by decide) (ce_18 _ _ _) (ci := 4) rfl inlX4 (j := 2) (by decide) rfl tw_713 (Or.inl rfl) dX8_told_72 ?_
      cases hm
      exact q_iret (pc := 75) C dX8_told_75
    replace hm := hm_f c12 hm
    by_cases c13 : a2 = (4 : Int32)
    · replace hm := hm_t c13 hm
      refine q_tableIn (pc := 13) (tgt := 76) C dX8_told_13 (by rw [c13]; decide) (by rw [c13]; decide) (by rw [c13]; rfl) (by decide) ?_
      refine q_aload_n (pc := 76) C dX8_told_76 rfl 0 rfl ?_
      refine q_get (pc := 77) (T := TX4) (v := .int (S 18 3)) C (by decide) (ce_18 _ _ _) (ci := 4) rfl inlX4 (j := 3) (by decide) rfl tw_714 (Or.inl rfl) dX8_told_77 ?_
      cases hm
      exact q_iret (pc := 80) C dX8_told_80
    replace hm := hm_f c13 hm
    by_cases c14 : a2 = (5 : Int32)
    · replace hm := hm_t c14 hm
      refine q_tableIn (pc := 13) (tgt := 81) C dX8_told_13 (by rw [c14]; decide) (by rw [c14]; decide) (by rw [c14]; rfl) (by decide) ?_
      refine q_aload_n (pc := 81) C dX8_told_81 rfl 0 rfl ?_
      refine q_get (pc := 82) (T := TX4) (v := .int (S 18 5)) C (by decide) (ce_18 _ _ _) (ci := 4) rfl inlX4 (j := 5) (by decide) rfl tw_199 (Or.inl rfl) dX8_told_82 ?_
      refine q_if_eq (pc := 85) (tgt := 92) C dX8_told_85 (by decide) (fun c15 => ?_) (fun c15 => ?_)
      · replace hm := hm_t c15 hm
        refine q_aload_n (pc := 92) C dX8_told_92 rfl 0 rfl ?_
        obtain ⟨r9, h12, hm⟩ := o1_some hm
        refine q_callU (pc := 93) (k := 18) (As := []) (rest := []) (T := TX4) (owner := "Tessera$Store") (x := ⟨"Tessera$Store", "freeTogether", "()I"⟩) C (c_Nur_freeTogether hi h12) (by decide) (ce_18 _ _ _) (ci := 4) rfl (Or.inr (Or.inl (by decide))) tw_740 tw_741 tw_490 tw_748 tw_16 tw_492 (nA := 0) (by decide +kernel) rfl (by decide) (Nat.le_of_ble_eq_true rfl) rfl dX8_told_93 ?_
        cases hm
        exact q_iret (pc := 96) C dX8_told_96
      · replace hm := hm_f c15 hm
        refine q_iconst (pc := 88) (v := (0 : Int32)) C dX8_told_88 (by decide) ?_
        refine q_goto (pc := 89) (tgt := 96) C dX8_told_89 (by decide) ?_
        cases hm
        exact q_iret (pc := 96) C dX8_told_96
    replace hm := hm_f c14 hm
    by_cases c16 : a2 = (6 : Int32)
    · replace hm := hm_t c16 hm
      refine q_tableIn (pc := 13) (tgt := 97) C dX8_told_13 (by rw [c16]; decide) (by rw [c16]; decide) (by rw [c16]; rfl) (by decide) ?_
      refine q_aload_n (pc := 97) C dX8_told_97 rfl 0 rfl ?_
      refine q_get (pc := 98) (T := TX4) (v := .int (S 18 4)) C (by decide) (ce_18 _ _ _) (ci := 4) rfl inlX4 (j := 4) (by decide) rfl tw_715 (Or.inl rfl) dX8_told_98 ?_
      cases hm
      exact q_iret (pc := 101) C dX8_told_101
    replace hm := hm_f c16 hm
    refine q_tableOut (pc := 13) (tgt := 102) C dX8_told_13 (q_out 6 (by decide) [(0 : Int32), (1 : Int32), (2 : Int32), (3 : Int32), (4 : Int32), (5 : Int32), (6 : Int32)] (by decide) (by simp [c9, c10, c11, c12, c13, c14, c16])) (by decide) ?_
    refine q_aload_n (pc := 102) C dX8_told_102 rfl 0 rfl ?_
    refine q_get (pc := 103) (T := TX4) (v := .int (S 18 5)) C (by decide) (ce_18 _ _ _) (ci := 4) rfl inlX4 (j := 5) (by decide) rfl tw_199 (Or.inl rfl) dX8_told_103 ?_
    obtain ⟨r10, h13, hm⟩ := o1_some hm
    refine q_callS (pc := 106) (As := [.int (S 18 5)]) (rest := []) C (c_Te_asNumber hi h13) tw_671 tw_672 tw_2 tw_673 (nA := 1) (by decide +kernel) rfl (by decide) (Nat.le_of_ble_eq_true rfl) rfl dX8_told_106 ?_
    cases hm
    exact q_iret (pc := 109) C dX8_told_109
  replace hm := hm_f c34 hm
  by_cases c35 : k1 = 31
  · replace hm := hm_t c35 hm
    subst c35
    refine q_astore_n (pc := 5) (lv' := [(3, .ref (gad G 31)), (0, .ref (gad G 0)), (1, .int a1), (2, .int a2)]) C dX8_told_5 rfl (by decide) rfl ?_
    refine q_iload_n (pc := 6) C dX8_told_6 rfl 3 rfl ?_
    refine q_bipush (pc := 7) (v := (7 : Int32)) C dX8_told_7 (by decide) ?_
    obtain ⟨u3, h14, hm⟩ := o1_some hm
    refine q_callS (pc := 9) (As := [.int a2, .int (7 : Int32)]) (rest := []) C (c_Te_checkWhat hi h14) tw_667 tw_668 tw_2 tw_669 (nA := 2) (by decide +kernel) rfl (by decide) (Nat.le_of_ble_eq_true rfl) rfl dX8_told_9 ?_
    refine q_iload_n (pc := 12) C dX8_told_12 rfl 3 rfl ?_
    by_cases c17 : a2 = (0 : Int32)
    · replace hm := hm_t c17 hm
      refine q_tableIn (pc := 13) (tgt := 56) C dX8_told_13 (by rw [c17]; decide) (by rw [c17]; decide) (by rw [c17]; rfl) (by decide) ?_
      refine q_aload_n (pc := 56) C dX8_told_56 rfl 0 rfl ?_
      obtain ⟨r11, h15, hm⟩ := o1_some hm
      refine q_callU (pc := 57) (k := 31) (As := []) (rest := []) (T := TX3) (owner := "Tessera$Store") (x := ⟨"Tessera$Store", "countHad", "()I"⟩) C (c_St_countHad_31 hi h15) (by decide) (ce_31 _ _ _) (ci := 3) rfl (Or.inl rfl) tw_720 tw_721 tw_250 tw_724 tw_62 tw_251 (nA := 0) (by decide +kernel) rfl (by decide) (Nat.le_of_ble_eq_true rfl) rfl dX8_told_57 ?_
      cases hm
      exact q_iret (pc := 60) C dX8_told_60
    replace hm := hm_f c17 hm
    by_cases c18 : a2 = (1 : Int32)
    · replace hm := hm_t c18 hm
      refine q_tableIn (pc := 13) (tgt := 61) C dX8_told_13 (by rw [c18]; decide) (by rw [c18]; decide) (by rw [c18]; rfl) (by decide) ?_
      refine q_aload_n (pc := 61) C dX8_told_61 rfl 0 rfl ?_
      obtain ⟨r12, h16, hm⟩ := o1_some hm
      refine q_callU (pc := 62) (k := 31) (As := []) (rest := []) (T := TX3) (owner := "Tessera$Store") (x := ⟨"Tessera$Store", "wordsHad", "()I"⟩) C (c_St_wordsHad_31 hi h16) (by decide) (ce_31 _ _ _) (ci := 3) rfl (Or.inl rfl) tw_726 tw_727 tw_414 tw_730 tw_62 tw_415 (nA := 0) (by decide +kernel) rfl (by decide) (Nat.le_of_ble_eq_true rfl) rfl dX8_told_62 ?_
      cases hm
      exact q_iret (pc := 65) C dX8_told_65
    replace hm := hm_f c18 hm
    by_cases c19 : a2 = (2 : Int32)
    · replace hm := hm_t c19 hm
      refine q_tableIn (pc := 13) (tgt := 66) C dX8_told_13 (by rw [c19]; decide) (by rw [c19]; decide) (by rw [c19]; rfl) (by decide) ?_
      refine q_aload_n (pc := 66) C dX8_told_66 rfl 0 rfl ?_
      obtain ⟨r13, h17, hm⟩ := o1_some hm
      refine q_callU (pc := 67) (k := 31) (As := []) (rest := []) (T := TX3) (owner := "Tessera$Store") (x := ⟨"Tessera$Store", "countUnreached", "()I"⟩) C (c_St_countUnreached_31 hi h17) (by decide) (ce_31 _ _ _) (ci := 3) rfl (Or.inl rfl) tw_732 tw_733 tw_735 tw_738 tw_62 tw_736 (nA := 0) (by decide +kernel) rfl (by decide) (Nat.le_of_ble_eq_true rfl) rfl dX8_told_67 ?_
      cases hm
      exact q_iret (pc := 70) C dX8_told_70
    replace hm := hm_f c19 hm
    by_cases c20 : a2 = (3 : Int32)
    · replace hm := hm_t c20 hm
      refine q_tableIn (pc := 13) (tgt := 71) C dX8_told_13 (by rw [c20]; decide) (by rw [c20]; decide) (by rw [c20]; rfl) (by decide) ?_
      refine q_aload_n (pc := 71) C dX8_told_71 rfl 0 rfl ?_
      refine q_get (pc := 72) (T := TX3) (v := .int (S 31 3)) C (by decide) (ce_31 _ _ _) (ci := 3) rfl inlX3 (j := 3) (by decide) rfl tw_713 (Or.inl rfl) dX8_told_72 ?_
      cases hm
      exact q_iret (pc := 75) C dX8_told_75
    replace hm := hm_f c20 hm
    by_cases c21 : a2 = (4 : Int32)
    · replace hm := hm_t c21 hm
      refine q_tableIn (pc := 13) (tgt := 76) C dX8_told_13 (by rw [c21]; decide) (by rw [c21]; decide) (by rw [c21]; rfl) (by decide) ?_
      refine q_aload_n (pc := 76) C dX8_told_76 rfl 0 rfl ?_
      refine q_get (pc := 77) (T := TX3) (v := .int (S 31 4)) C (by decide) (ce_31 _ _ _) (ci := 3) rfl inlX3 (j := 4) (by decide) rfl tw_714 (Or.inl rfl) dX8_told_77 ?_
      cases hm
      exact q_iret (pc := 80) C dX8_told_80
    replace hm := hm_f c21 hm
    by_cases c22 : a2 = (5 : Int32)
    · replace hm := hm_t c22 hm
      refine q_tableIn (pc := 13) (tgt := 81) C dX8_told_13 (by rw [c22]; decide) (by rw [c22]; decide) (by rw [c22]; rfl) (by decide) ?_
      refine q_aload_n (pc := 81) C dX8_told_81 rfl 0 rfl ?_
      refine q_get (pc := 82) (T := TX3) (v := .int (S 31 6)) C (by decide) (ce_31 _ _ _) (ci := 3) rfl inlX3 (j := 6) (by decide) rfl tw_199 (Or.inl rfl) dX8_told_82 ?_
      refine q_if_eq (pc := 85) (tgt := 92) C dX8_told_85 (by decide) (fun c23 => ?_) (fun c23 => ?_)
      · replace hm := hm_t c23 hm
        refine q_aload_n (pc := 92) C dX8_told_92 rfl 0 rfl ?_
        obtain ⟨r14, S1, h18, hm⟩ := ob_some hm
        refine q_callU (pc := 93) (k := 31) (As := []) (rest := []) (T := TX3) (owner := "Tessera$Store") (x := ⟨"Tessera$Store", "freeTogether", "()I"⟩) C (c_Sc_freeTogether_31 hi h18) (by decide) (ce_31 _ _ _) (ci := 3) rfl (Or.inr (Or.inl (by decide))) tw_740 tw_741 tw_744 tw_747 tw_78 tw_745 (nA := 0) (by decide +kernel) rfl (by decide) (Nat.le_of_ble_eq_true rfl) rfl dX8_told_93 ?_
        cases hm
        exact q_iret (pc := 96) C dX8_told_96
      · replace hm := hm_f c23 hm
        refine q_iconst (pc := 88) (v := (0 : Int32)) C dX8_told_88 (by decide) ?_
        refine q_goto (pc := 89) (tgt := 96) C dX8_told_89 (by decide) ?_
        cases hm
        exact q_iret (pc := 96) C dX8_told_96
    replace hm := hm_f c22 hm
    by_cases c24 : a2 = (6 : Int32)
    · replace hm := hm_t c24 hm
      refine q_tableIn (pc := 13) (tgt := 97) C dX8_told_13 (by rw [c24]; decide) (by rw [c24]; decide) (by rw [c24]; rfl) (by decide) ?_
      refine q_aload_n (pc := 97) C dX8_told_97 rfl 0 rfl ?_
      refine q_get (pc := 98) (T := TX3) (v := .int (S 31 5)) C (by decide) (ce_31 _ _ _) (ci := 3) rfl inlX3 (j := 5) (by decide) rfl tw_715 (Or.inl rfl) dX8_told_98 ?_
      cases hm
      exact q_iret (pc := 101) C dX8_told_101
    replace hm := hm_f c24 hm
    refine q_tableOut (pc := 13) (tgt := 102) C dX8_told_13 (q_out 6 (by decide) [(0 : Int32), (1 : Int32), (2 : Int32), (3 : Int32), (4 : Int32), (5 : Int32), (6 : Int32)] (by decide) (by simp [c17, c18, c19, c20, c21, c22, c24])) (by decide) ?_
    refine q_aload_n (pc := 102) C dX8_told_102 rfl 0 rfl ?_
    refine q_get (pc := 103) (T := TX3) (v := .int (S 31 6)) C (by decide) (ce_31 _ _ _) (ci := 3) rfl inlX3 (j := 6) (by decide) rfl tw_199 (Or.inl rfl) dX8_told_103 ?_
    obtain ⟨r15, h19, hm⟩ := o1_some hm
    refine q_callS (pc := 106) (As := [.int (S 31 6)]) (rest := []) C (c_Te_asNumber hi h19) tw_671 tw_672 tw_2 tw_673 (nA := 1) (by decide +kernel) rfl (by decide) (Nat.le_of_ble_eq_true rfl) rfl dX8_told_106 ?_
    cases hm
    exact q_iret (pc := 109) C dX8_told_109
  replace hm := hm_f c35 hm
  by_cases c36 : k1 = 42
  · replace hm := hm_t c36 hm
    subst c36
    refine q_astore_n (pc := 5) (lv' := [(3, .ref (gad G 42)), (0, .ref (gad G 0)), (1, .int a1), (2, .int a2)]) C dX8_told_5 rfl (by decide) rfl ?_
    refine q_iload_n (pc := 6) C dX8_told_6 rfl 3 rfl ?_
    refine q_bipush (pc := 7) (v := (7 : Int32)) C dX8_told_7 (by decide) ?_
    obtain ⟨u4, h20, hm⟩ := o1_some hm
    refine q_callS (pc := 9) (As := [.int a2, .int (7 : Int32)]) (rest := []) C (c_Te_checkWhat hi h20) tw_667 tw_668 tw_2 tw_669 (nA := 2) (by decide +kernel) rfl (by decide) (Nat.le_of_ble_eq_true rfl) rfl dX8_told_9 ?_
    refine q_iload_n (pc := 12) C dX8_told_12 rfl 3 rfl ?_
    by_cases c25 : a2 = (0 : Int32)
    · replace hm := hm_t c25 hm
      refine q_tableIn (pc := 13) (tgt := 56) C dX8_told_13 (by rw [c25]; decide) (by rw [c25]; decide) (by rw [c25]; rfl) (by decide) ?_
      refine q_aload_n (pc := 56) C dX8_told_56 rfl 0 rfl ?_
      obtain ⟨r16, h21, hm⟩ := o1_some hm
      refine q_callU (pc := 57) (k := 42) (As := []) (rest := []) (T := TX1) (owner := "Tessera$Store") (x := ⟨"Tessera$Store", "countHad", "()I"⟩) C (c_St_countHad_42 hi h21) (by decide) (ce_42 _ _ _) (ci := 1) rfl (Or.inl rfl) tw_720 tw_721 tw_250 tw_723 tw_62 tw_251 (nA := 0) (by decide +kernel) rfl (by decide) (Nat.le_of_ble_eq_true rfl) rfl dX8_told_57 ?_
      cases hm
      exact q_iret (pc := 60) C dX8_told_60
    replace hm := hm_f c25 hm
    by_cases c26 : a2 = (1 : Int32)
    · replace hm := hm_t c26 hm
      refine q_tableIn (pc := 13) (tgt := 61) C dX8_told_13 (by rw [c26]; decide) (by rw [c26]; decide) (by rw [c26]; rfl) (by decide) ?_
      refine q_aload_n (pc := 61) C dX8_told_61 rfl 0 rfl ?_
      obtain ⟨r17, h22, hm⟩ := o1_some hm
      refine q_callU (pc := 62) (k := 42) (As := []) (rest := []) (T := TX1) (owner := "Tessera$Store") (x := ⟨"Tessera$Store", "wordsHad", "()I"⟩) C (c_St_wordsHad_42 hi h22) (by decide) (ce_42 _ _ _) (ci := 1) rfl (Or.inl rfl) tw_726 tw_727 tw_414 tw_729 tw_62 tw_415 (nA := 0) (by decide +kernel) rfl (by decide) (Nat.le_of_ble_eq_true rfl) rfl dX8_told_62 ?_
      cases hm
      exact q_iret (pc := 65) C dX8_told_65
    replace hm := hm_f c26 hm
    by_cases c27 : a2 = (2 : Int32)
    · replace hm := hm_t c27 hm
      refine q_tableIn (pc := 13) (tgt := 66) C dX8_told_13 (by rw [c27]; decide) (by rw [c27]; decide) (by rw [c27]; rfl) (by decide) ?_
      refine q_aload_n (pc := 66) C dX8_told_66 rfl 0 rfl ?_
      obtain ⟨r18, h23, hm⟩ := o1_some hm
      refine q_callU (pc := 67) (k := 42) (As := []) (rest := []) (T := TX1) (owner := "Tessera$Store") (x := ⟨"Tessera$Store", "countUnreached", "()I"⟩) C (c_St_countUnreached_42 hi h23) (by decide) (ce_42 _ _ _) (ci := 1) rfl (Or.inl rfl) tw_732 tw_733 tw_735 tw_737 tw_62 tw_736 (nA := 0) (by decide +kernel) rfl (by decide) (Nat.le_of_ble_eq_true rfl) rfl dX8_told_67 ?_
      cases hm
      exact q_iret (pc := 70) C dX8_told_70
    replace hm := hm_f c27 hm
    by_cases c28 : a2 = (3 : Int32)
    · replace hm := hm_t c28 hm
      refine q_tableIn (pc := 13) (tgt := 71) C dX8_told_13 (by rw [c28]; decide) (by rw [c28]; decide) (by rw [c28]; rfl) (by decide) ?_
      refine q_aload_n (pc := 71) C dX8_told_71 rfl 0 rfl ?_
      refine q_get (pc := 72) (T := TX1) (v := .int (S 42 3)) C (by decide) (ce_42 _ _ _) (ci := 1) rfl inlX1 (j := 3) (by decide) rfl tw_713 (Or.inl rfl) dX8_told_72 ?_
      cases hm
      exact q_iret (pc := 75) C dX8_told_75
    replace hm := hm_f c28 hm
    by_cases c29 : a2 = (4 : Int32)
    · replace hm := hm_t c29 hm
      refine q_tableIn (pc := 13) (tgt := 76) C dX8_told_13 (by rw [c29]; decide) (by rw [c29]; decide) (by rw [c29]; rfl) (by decide) ?_
      refine q_aload_n (pc := 76) C dX8_told_76 rfl 0 rfl ?_
      refine q_get (pc := 77) (T := TX1) (v := .int (S 42 4)) C (by decide) (ce_42 _ _ _) (ci := 1) rfl inlX1 (j := 4) (by decide) rfl tw_714 (Or.inl rfl) dX8_told_77 ?_
      cases hm
      exact q_iret (pc := 80) C dX8_told_80
    replace hm := hm_f c29 hm
    by_cases c30 : a2 = (5 : Int32)
    · replace hm := hm_t c30 hm
      refine q_tableIn (pc := 13) (tgt := 81) C dX8_told_13 (by rw [c30]; decide) (by rw [c30]; decide) (by rw [c30]; rfl) (by decide) ?_
      refine q_aload_n (pc := 81) C dX8_told_81 rfl 0 rfl ?_
      refine q_get (pc := 82) (T := TX1) (v := .int (S 42 6)) C (by decide) (ce_42 _ _ _) (ci := 1) rfl inlX1 (j := 6) (by decide) rfl tw_199 (Or.inl rfl) dX8_told_82 ?_
      refine q_if_eq (pc := 85) (tgt := 92) C dX8_told_85 (by decide) (fun c31 => ?_) (fun c31 => ?_)
      · replace hm := hm_t c31 hm
        refine q_aload_n (pc := 92) C dX8_told_92 rfl 0 rfl ?_
        obtain ⟨r19, S2, h24, hm⟩ := ob_some hm
        refine q_callU (pc := 93) (k := 42) (As := []) (rest := []) (T := TX1) (owner := "Tessera$Store") (x := ⟨"Tessera$Store", "freeTogether", "()I"⟩) C (c_Sc_freeTogether_42 hi h24) (by decide) (ce_42 _ _ _) (ci := 1) rfl (Or.inr (Or.inl (by decide))) tw_740 tw_741 tw_744 tw_743 tw_78 tw_745 (nA := 0) (by decide +kernel) rfl (by decide) (Nat.le_of_ble_eq_true rfl) rfl dX8_told_93 ?_
        cases hm
        exact q_iret (pc := 96) C dX8_told_96
      · replace hm := hm_f c31 hm
        refine q_iconst (pc := 88) (v := (0 : Int32)) C dX8_told_88 (by decide) ?_
        refine q_goto (pc := 89) (tgt := 96) C dX8_told_89 (by decide) ?_
        cases hm
        exact q_iret (pc := 96) C dX8_told_96
    replace hm := hm_f c30 hm
    by_cases c32 : a2 = (6 : Int32)
    · replace hm := hm_t c32 hm
      refine q_tableIn (pc := 13) (tgt := 97) C dX8_told_13 (by rw [c32]; decide) (by rw [c32]; decide) (by rw [c32]; rfl) (by decide) ?_
      refine q_aload_n (pc := 97) C dX8_told_97 rfl 0 rfl ?_
      refine q_get (pc := 98) (T := TX1) (v := .int (S 42 5)) C (by decide) (ce_42 _ _ _) (ci := 1) rfl inlX1 (j := 5) (by decide) rfl tw_715 (Or.inl rfl) dX8_told_98 ?_
      cases hm
      exact q_iret (pc := 101) C dX8_told_101
    replace hm := hm_f c32 hm
    refine q_tableOut (pc := 13) (tgt := 102) C dX8_told_13 (q_out 6 (by decide) [(0 : Int32), (1 : Int32), (2 : Int32), (3 : Int32), (4 : Int32), (5 : Int32), (6 : Int32)] (by decide) (by simp [c25, c26, c27, c28, c29, c30, c32])) (by decide) ?_
    refine q_aload_n (pc := 102) C dX8_told_102 rfl 0 rfl ?_
    refine q_get (pc := 103) (T := TX1) (v := .int (S 42 6)) C (by decide) (ce_42 _ _ _) (ci := 1) rfl inlX1 (j := 6) (by decide) rfl tw_199 (Or.inl rfl) dX8_told_103 ?_
    obtain ⟨r20, h25, hm⟩ := o1_some hm
    refine q_callS (pc := 106) (As := [.int (S 42 6)]) (rest := []) C (c_Te_asNumber hi h25) tw_671 tw_672 tw_2 tw_673 (nA := 1) (by decide +kernel) rfl (by decide) (Nat.le_of_ble_eq_true rfl) rfl dX8_told_106 ?_
    cases hm
    exact q_iret (pc := 109) C dX8_told_109
  replace hm := hm_f c36 hm
  cases hm
set_option maxRecDepth 100000 in
theorem c_St_placeOf_12 {G : Gx} (hi : qinj (gad G)) {S : St} {a1 : Int32} {zr : Int32} (hm : m_St_placeOf 12 0 S a1 = some zr) : QMet G yX7_placeOf cX7_placeOf 2 (some .int) 1 21 [.ref (gad G 12), .int a1] S (some (.int zr)) S := by
  refine q_entry (by decide +kernel) rfl hi (Nat.le_of_ble_eq_true rfl) ?_
  intro X C
  refine q_lv (lv' := [(0, .ref (gad G 12)), (1, .int a1)]) [0, 1] rfl ?_
  unfold m_St_placeOf at hm
  refine q_aload_n (pc := 0) C dX7_placeOf_0 rfl 0 rfl ?_
  refine q_iload_n (pc := 1) C dX7_placeOf_1 rfl 1 rfl ?_
  obtain ⟨r1, h1, hm⟩ := o1_some hm
  refine q_callU (pc := 2) (k := 12) (As := [.int a1]) (rest := []) (T := TX0) (owner := "Tessera$Store") (x := ⟨"Tessera$Store", "has", "(I)Z"⟩) C (c_St_has_12 hi h1) (by decide) (ce_12 _ _ _) (ci := 0) rfl (Or.inl rfl) tw_253 tw_254 tw_256 tw_255 tw_62 tw_257 (nA := 1) (by decide +kernel) rfl (by decide) (Nat.le_of_ble_eq_true rfl) rfl dX7_placeOf_2 ?_
  refine q_if_eq (pc := 5) (tgt := 17) C dX7_placeOf_5 (by decide) (fun c1 => ?_) (fun c1 => ?_)
  · replace hm := hm_t c1 hm
    refine q_iconst (pc := 17) (v := (-1 : Int32)) C dX7_placeOf_17 (by decide) ?_
    cases hm
    exact q_iret (pc := 18) C dX7_placeOf_18
  · replace hm := hm_f c1 hm
    refine q_aload_n (pc := 8) C dX7_placeOf_8 rfl 0 rfl ?_
    refine q_get (pc := 9) (T := TX0) (v := .ref (gad G 14)) C (by decide) (ce_12 _ _ _) (ci := 0) rfl inlX0 (j := 8) (by decide) rfl tw_66 (Or.inl rfl) dX7_placeOf_9 ?_
    refine q_iload_n (pc := 12) C dX7_placeOf_12 rfl 1 rfl ?_
    obtain ⟨b1, hm⟩ := oi_some hm
    refine q_iald (pc := 13) C (by decide) (ce_14 _ _ _) (ty_14 _) b1 dX7_placeOf_13 ?_
    refine q_goto (pc := 14) (tgt := 18) C dX7_placeOf_14 (by decide) ?_
    cases hm
    exact q_iret (pc := 18) C dX7_placeOf_18
set_option maxRecDepth 100000 in
theorem c_St_placeOf_18 {G : Gx} (hi : qinj (gad G)) {S : St} {a1 : Int32} {zr : Int32} (hm : m_St_placeOf 18 0 S a1 = some zr) : QMet G yX7_placeOf cX7_placeOf 2 (some .int) 1 21 [.ref (gad G 18), .int a1] S (some (.int zr)) S := by
  refine q_entry (by decide +kernel) rfl hi (Nat.le_of_ble_eq_true rfl) ?_
  intro X C
  refine q_lv (lv' := [(0, .ref (gad G 18)), (1, .int a1)]) [0, 1] rfl ?_
  unfold m_St_placeOf at hm
  refine q_aload_n (pc := 0) C dX7_placeOf_0 rfl 0 rfl ?_
  refine q_iload_n (pc := 1) C dX7_placeOf_1 rfl 1 rfl ?_
  obtain ⟨r1, h1, hm⟩ := o1_some hm
  refine q_callU (pc := 2) (k := 18) (As := [.int a1]) (rest := []) (T := TX4) (owner := "Tessera$Store") (x := ⟨"Tessera$Store", "has", "(I)Z"⟩) C (c_St_has_18 hi h1) (by decide) (ce_18 _ _ _) (ci := 4) rfl (Or.inl rfl) tw_253 tw_254 tw_256 tw_260 tw_62 tw_257 (nA := 1) (by decide +kernel) rfl (by decide) (Nat.le_of_ble_eq_true rfl) rfl dX7_placeOf_2 ?_
  refine q_if_eq (pc := 5) (tgt := 17) C dX7_placeOf_5 (by decide) (fun c1 => ?_) (fun c1 => ?_)
  · replace hm := hm_t c1 hm
    refine q_iconst (pc := 17) (v := (-1 : Int32)) C dX7_placeOf_17 (by decide) ?_
    cases hm
    exact q_iret (pc := 18) C dX7_placeOf_18
  · replace hm := hm_f c1 hm
    refine q_aload_n (pc := 8) C dX7_placeOf_8 rfl 0 rfl ?_
    refine q_get (pc := 9) (T := TX4) (v := .ref (gad G 20)) C (by decide) (ce_18 _ _ _) (ci := 4) rfl inlX4 (j := 8) (by decide) rfl tw_66 (Or.inl rfl) dX7_placeOf_9 ?_
    refine q_iload_n (pc := 12) C dX7_placeOf_12 rfl 1 rfl ?_
    obtain ⟨b1, hm⟩ := oi_some hm
    refine q_iald (pc := 13) C (by decide) (ce_20 _ _ _) (ty_20 _) b1 dX7_placeOf_13 ?_
    refine q_goto (pc := 14) (tgt := 18) C dX7_placeOf_14 (by decide) ?_
    cases hm
    exact q_iret (pc := 18) C dX7_placeOf_18
set_option maxRecDepth 100000 in
theorem c_Te_at {G : Gx} (hi : qinj (gad G)) {S : St} {a1 : Int32} {a2 : Int32} {zr : Int32} (hm : m_Te_at S a1 a2 = some zr) : QMet G yX8_at cX8_at 4 (some .int) 2 42 [.ref (gad G 0), .int a1, .int a2] S (some (.int zr)) S := by
  refine q_entry (by decide +kernel) rfl hi (Nat.le_of_ble_eq_true rfl) ?_
  intro X C
  refine q_lv (lv' := [(0, .ref (gad G 0)), (1, .int a1), (2, .int a2)]) [0, 1, 2] rfl ?_
  unfold m_Te_at at hm
  refine q_aload_n (pc := 0) C dX8_at_0 rfl 0 rfl ?_
  refine q_iload_n (pc := 1) C dX8_at_1 rfl 1 rfl ?_
  obtain ⟨k1, h1, hm⟩ := o1_some hm
  refine q_callV (pc := 2) (k := 0) (As := [.int a1]) (rest := []) (T := TX8) C (c_Te_storeOf hi h1) (by decide) (ce_0 _ _ _) (ci := 6) rfl tw_716 tw_717 tw_718 tw_2 tw_719 (nA := 1) (by decide +kernel) rfl (by decide) (Nat.le_of_ble_eq_true rfl) rfl dX8_at_2 ?_
  by_cases c1 : k1 = 12
  · replace hm := hm_t c1 hm
    subst c1
    refine q_astore_n (pc := 5) (lv' := [(3, .ref (gad G 12)), (0, .ref (gad G 0)), (1, .int a1), (2, .int a2)]) C dX8_at_5 rfl (by decide) rfl ?_
    refine q_aload_n (pc := 6) C dX8_at_6 rfl 1 rfl ?_
    refine q_iload_n (pc := 7) C dX8_at_7 rfl 3 rfl ?_
    obtain ⟨u1, h2, hm⟩ := o1_some hm
    refine q_callV (pc := 8) (k := 0) (As := [.int a2]) (rest := []) (T := TX8) C (c_Te_checkThing hi h2) (by decide) (ce_0 _ _ _) (ci := 6) rfl tw_662 tw_663 tw_664 tw_2 tw_665 (nA := 1) (by decide +kernel) rfl (by decide) (Nat.le_of_ble_eq_true rfl) rfl dX8_at_8 ?_
    refine q_aload_n (pc := 11) C dX8_at_11 rfl 0 rfl ?_
    refine q_iload_n (pc := 12) C dX8_at_12 rfl 3 rfl ?_
    obtain ⟨r1, h3, hm⟩ := o1_some hm
    refine q_callU (pc := 13) (k := 12) (As := [.int a2]) (rest := []) (T := TX0) (owner := "Tessera$Store") (x := ⟨"Tessera$Store", "placeOf", "(I)I"⟩) C (c_St_placeOf_12 hi h3) (by decide) (ce_12 _ _ _) (ci := 0) rfl (Or.inl rfl) tw_753 tw_754 tw_341 tw_755 tw_62 tw_342 (nA := 1) (by decide +kernel) rfl (by decide) (Nat.le_of_ble_eq_true rfl) rfl dX8_at_13 ?_
    cases hm
    exact q_iret (pc := 16) C dX8_at_16
  replace hm := hm_f c1 hm
  by_cases c2 : k1 = 18
  · replace hm := hm_t c2 hm
    subst c2
    refine q_astore_n (pc := 5) (lv' := [(3, .ref (gad G 18)), (0, .ref (gad G 0)), (1, .int a1), (2, .int a2)]) C dX8_at_5 rfl (by decide) rfl ?_
    refine q_aload_n (pc := 6) C dX8_at_6 rfl 1 rfl ?_
    refine q_iload_n (pc := 7) C dX8_at_7 rfl 3 rfl ?_
    obtain ⟨u2, h4, hm⟩ := o1_some hm
    refine q_callV (pc := 8) (k := 0) (As := [.int a2]) (rest := []) (T := TX8) C (c_Te_checkThing hi h4) (by decide) (ce_0 _ _ _) (ci := 6) rfl tw_662 tw_663 tw_664 tw_2 tw_665 (nA := 1) (by decide +kernel) rfl (by decide) (Nat.le_of_ble_eq_true rfl) rfl dX8_at_8 ?_
    refine q_aload_n (pc := 11) C dX8_at_11 rfl 0 rfl ?_
    refine q_iload_n (pc := 12) C dX8_at_12 rfl 3 rfl ?_
    obtain ⟨r2, h5, hm⟩ := o1_some hm
    refine q_callU (pc := 13) (k := 18) (As := [.int a2]) (rest := []) (T := TX4) (owner := "Tessera$Store") (x := ⟨"Tessera$Store", "placeOf", "(I)I"⟩) C (c_St_placeOf_18 hi h5) (by decide) (ce_18 _ _ _) (ci := 4) rfl (Or.inl rfl) tw_753 tw_754 tw_341 tw_758 tw_62 tw_342 (nA := 1) (by decide +kernel) rfl (by decide) (Nat.le_of_ble_eq_true rfl) rfl dX8_at_13 ?_
    cases hm
    exact q_iret (pc := 16) C dX8_at_16
  replace hm := hm_f c2 hm
  by_cases c3 : k1 = 31
  · replace hm := hm_t c3 hm
    subst c3
    refine q_astore_n (pc := 5) (lv' := [(3, .ref (gad G 31)), (0, .ref (gad G 0)), (1, .int a1), (2, .int a2)]) C dX8_at_5 rfl (by decide) rfl ?_
    refine q_aload_n (pc := 6) C dX8_at_6 rfl 1 rfl ?_
    refine q_iload_n (pc := 7) C dX8_at_7 rfl 3 rfl ?_
    obtain ⟨u3, h6, hm⟩ := o1_some hm
    refine q_callV (pc := 8) (k := 0) (As := [.int a2]) (rest := []) (T := TX8) C (c_Te_checkThing hi h6) (by decide) (ce_0 _ _ _) (ci := 6) rfl tw_662 tw_663 tw_664 tw_2 tw_665 (nA := 1) (by decide +kernel) rfl (by decide) (Nat.le_of_ble_eq_true rfl) rfl dX8_at_8 ?_
    refine q_aload_n (pc := 11) C dX8_at_11 rfl 0 rfl ?_
    refine q_iload_n (pc := 12) C dX8_at_12 rfl 3 rfl ?_
    obtain ⟨r3, h7, hm⟩ := o1_some hm
    refine q_callU (pc := 13) (k := 31) (As := [.int a2]) (rest := []) (T := TX3) (owner := "Tessera$Store") (x := ⟨"Tessera$Store", "placeOf", "(I)I"⟩) C (c_St_placeOf_31 hi h7) (by decide) (ce_31 _ _ _) (ci := 3) rfl (Or.inl rfl) tw_753 tw_754 tw_341 tw_757 tw_62 tw_342 (nA := 1) (by decide +kernel) rfl (by decide) (Nat.le_of_ble_eq_true rfl) rfl dX8_at_13 ?_
    cases hm
    exact q_iret (pc := 16) C dX8_at_16
  replace hm := hm_f c3 hm
  by_cases c4 : k1 = 42
  · replace hm := hm_t c4 hm
    subst c4
    refine q_astore_n (pc := 5) (lv' := [(3, .ref (gad G 42)), (0, .ref (gad G 0)), (1, .int a1), (2, .int a2)]) C dX8_at_5 rfl (by decide) rfl ?_
    refine q_aload_n (pc := 6) C dX8_at_6 rfl 1 rfl ?_
    refine q_iload_n (pc := 7) C dX8_at_7 rfl 3 rfl ?_
    obtain ⟨u4, h8, hm⟩ := o1_some hm
    refine q_callV (pc := 8) (k := 0) (As := [.int a2]) (rest := []) (T := TX8) C (c_Te_checkThing hi h8) (by decide) (ce_0 _ _ _) (ci := 6) rfl tw_662 tw_663 tw_664 tw_2 tw_665 (nA := 1) (by decide +kernel) rfl (by decide) (Nat.le_of_ble_eq_true rfl) rfl dX8_at_8 ?_
    refine q_aload_n (pc := 11) C dX8_at_11 rfl 0 rfl ?_
    refine q_iload_n (pc := 12) C dX8_at_12 rfl 3 rfl ?_
    obtain ⟨r4, h9, hm⟩ := o1_some hm
    refine q_callU (pc := 13) (k := 42) (As := [.int a2]) (rest := []) (T := TX1) (owner := "Tessera$Store") (x := ⟨"Tessera$Store", "placeOf", "(I)I"⟩) C (c_St_placeOf_42 hi h9) (by decide) (ce_42 _ _ _) (ci := 1) rfl (Or.inl rfl) tw_753 tw_754 tw_341 tw_756 tw_62 tw_342 (nA := 1) (by decide +kernel) rfl (by decide) (Nat.le_of_ble_eq_true rfl) rfl dX8_at_13 ?_
    cases hm
    exact q_iret (pc := 16) C dX8_at_16
  replace hm := hm_f c4 hm
  cases hm
set_option maxRecDepth 100000 in
theorem c_Nur_ageOf {G : Gx} (hi : qinj (gad G)) {S : St} {a1 : Int32} {zr : Int32} (hm : m_Nur_ageOf S a1 = some zr) : QMet G yX4_ageOf cX4_ageOf 2 (some .int) 2 42 [.ref (gad G 18), .int a1] S (some (.int zr)) S := by
  refine q_entry (by decide +kernel) rfl hi (Nat.le_of_ble_eq_true rfl) ?_
  intro X C
  refine q_lv (lv' := [(0, .ref (gad G 18)), (1, .int a1)]) [0, 1] rfl ?_
  unfold m_Nur_ageOf at hm
  refine q_aload_n (pc := 0) C dX4_ageOf_0 rfl 0 rfl ?_
  refine q_iload_n (pc := 1) C dX4_ageOf_1 rfl 1 rfl ?_
  obtain ⟨r1, h1, hm⟩ := o1_some hm
  refine q_callU (pc := 2) (k := 18) (As := [.int a1]) (rest := []) (T := TX4) (owner := "Tessera$Store") (x := ⟨"Tessera$Nursery", "has", "(I)Z"⟩) C (c_St_has_18 hi h1) (by decide) (ce_18 _ _ _) (ci := 4) rfl (Or.inl rfl) tw_767 tw_768 tw_256 tw_769 tw_62 tw_257 (nA := 1) (by decide +kernel) rfl (by decide) (Nat.le_of_ble_eq_true rfl) rfl dX4_ageOf_2 ?_
  refine q_if_ne (pc := 5) (tgt := 10) C dX4_ageOf_5 (by decide) (fun c1 => ?_) (fun c1 => ?_)
  · replace hm := hm_f c1 hm
    refine q_aload_n (pc := 10) C dX4_ageOf_10 rfl 0 rfl ?_
    refine q_get (pc := 11) (T := TX4) (v := .ref (gad G 21)) C (by decide) (ce_18 _ _ _) (ci := 4) rfl inlX4 (j := 11) (by decide) rfl tw_55 (Or.inl rfl) dX4_ageOf_11 ?_
    refine q_iload_n (pc := 14) C dX4_ageOf_14 rfl 1 rfl ?_
    obtain ⟨r2, h2, hm⟩ := o1_some hm
    refine q_callV (pc := 15) (k := 21) (As := [.int a1]) (rest := []) (T := TX5) C (c_Row_holds_21 hi h2) (by decide) (ce_21 _ _ _) (ci := 5) rfl tw_567 tw_384 tw_385 tw_43 tw_386 (nA := 1) (by decide +kernel) rfl (by decide) (Nat.le_of_ble_eq_true rfl) rfl dX4_ageOf_15 ?_
    refine q_if_ne (pc := 18) (tgt := 23) C dX4_ageOf_18 (by decide) (fun c2 => ?_) (fun c2 => ?_)
    · replace hm := hm_f c2 hm
      refine q_aload_n (pc := 23) C dX4_ageOf_23 rfl 0 rfl ?_
      refine q_iload_n (pc := 24) C dX4_ageOf_24 rfl 1 rfl ?_
      obtain ⟨r3, h3, hm⟩ := o1_some hm
      refine q_callV (pc := 25) (k := 18) (As := [.int a1]) (rest := []) (T := TX4) C (c_Nur_isGrown hi h3) (by decide) (ce_18 _ _ _) (ci := 4) rfl tw_503 tw_504 tw_505 tw_16 tw_506 (nA := 1) (by decide +kernel) rfl (by decide) (Nat.le_of_ble_eq_true rfl) rfl dX4_ageOf_25 ?_
      refine q_if_eq (pc := 28) (tgt := 35) C dX4_ageOf_28 (by decide) (fun c3 => ?_) (fun c3 => ?_)
      · replace hm := hm_t c3 hm
        refine q_iconst (pc := 35) (v := (0 : Int32)) C dX4_ageOf_35 (by decide) ?_
        cases hm
        exact q_iret (pc := 36) C dX4_ageOf_36
      · replace hm := hm_f c3 hm
        refine q_iconst (pc := 31) (v := (1 : Int32)) C dX4_ageOf_31 (by decide) ?_
        refine q_goto (pc := 32) (tgt := 36) C dX4_ageOf_32 (by decide) ?_
        cases hm
        exact q_iret (pc := 36) C dX4_ageOf_36
    · replace hm := hm_t c2 hm
      refine q_iconst (pc := 21) (v := (2 : Int32)) C dX4_ageOf_21 (by decide) ?_
      cases hm
      exact q_iret (pc := 22) C dX4_ageOf_22
  · replace hm := hm_t c1 hm
    refine q_iconst (pc := 8) (v := (-1 : Int32)) C dX4_ageOf_8 (by decide) ?_
    cases hm
    exact q_iret (pc := 9) C dX4_ageOf_9
set_option maxRecDepth 100000 in
theorem w_Nur_isRemembered_L15 {G : Gx} (hi : qinj (gad G)) {X : Cx} (C : QC G X cX4_isRemembered 3 RX4 1 22 (some .boolean)) : ∀ (n : Nat) (S : St) (v1 : Int32) (v2 : Int32) (zr : Int32), m_Nur_isRemembered_L15 n S v1 v2 = some zr → QW G X 3 (QE G X (some (.int zr)) S) 15 [(0, .ref (gad G 18)), (1, .int v1), (2, .int v2)] [] S := by
  intro n
  induction n with
  | zero =>
    intro S v1 v2 zr hm
    rw [m_Nur_isRemembered_L15] at hm
    cases hm
  | succ n ih =>
    intro S v1 v2 zr hm
    rw [m_Nur_isRemembered_L15] at hm
    refine q_iload_n (pc := 15) C dX4_isRemembered_15 rfl 2 rfl ?_
    refine q_aload_n (pc := 16) C dX4_isRemembered_16 rfl 0 rfl ?_
    refine q_get (pc := 17) (T := TX4) (v := .ref (gad G 1)) C (by decide) (ce_18 _ _ _) (ci := 4) rfl inlX4 (j := 0) (by decide) rfl tw_484 (Or.inr tw_485) dX4_isRemembered_17 ?_
    refine q_iload_n (pc := 20) C dX4_isRemembered_20 rfl 1 rfl ?_
    obtain ⟨r1, h1, hm⟩ := o1_some hm
    refine q_callV (pc := 21) (k := 1) (As := [.int v1]) (rest := [.int v2]) (T := TX2) C (c_Gr_fieldsOf hi h1) (by decide) (ce_1 _ _ _) (ci := 2) rfl tw_572 tw_279 tw_280 tw_13 tw_281 (nA := 1) (by decide +kernel) rfl (by decide) (Nat.le_of_ble_eq_true rfl) rfl dX4_isRemembered_21 ?_
    refine q_icmp_ge (pc := 24) (tgt := 54) C dX4_isRemembered_24 (by decide) (fun c1 => ?_) (fun c1 => ?_)
    · replace hm := hm_t c1 hm
      refine q_iconst (pc := 54) (v := (0 : Int32)) C dX4_isRemembered_54 (by decide) ?_
      cases hm
      exact q_zret (pc := 55) C (by decide) dX4_isRemembered_55
    · replace hm := hm_f c1 hm
      refine q_aload_n (pc := 27) C dX4_isRemembered_27 rfl 0 rfl ?_
      refine q_get (pc := 28) (T := TX4) (v := .ref (gad G 21)) C (by decide) (ce_18 _ _ _) (ci := 4) rfl inlX4 (j := 11) (by decide) rfl tw_55 (Or.inl rfl) dX4_isRemembered_28 ?_
      refine q_aload_n (pc := 31) C dX4_isRemembered_31 rfl 0 rfl ?_
      refine q_get (pc := 32) (T := TX4) (v := .ref (gad G 1)) C (by decide) (ce_18 _ _ _) (ci := 4) rfl inlX4 (j := 0) (by decide) rfl tw_484 (Or.inr tw_485) dX4_isRemembered_32 ?_
      refine q_iload_n (pc := 35) C dX4_isRemembered_35 rfl 1 rfl ?_
      refine q_iload_n (pc := 36) C dX4_isRemembered_36 rfl 2 rfl ?_
      obtain ⟨r2, h2, hm⟩ := o1_some hm
      refine q_callV (pc := 37) (k := 1) (As := [.int v1, .int v2]) (rest := [.ref (gad G 21)]) (T := TX2) C (c_Gr_nameOf hi h2) (by decide) (ce_1 _ _ _) (ci := 2) rfl tw_573 tw_283 tw_284 tw_13 tw_285 (nA := 2) (by decide +kernel) rfl (by decide) (Nat.le_of_ble_eq_true rfl) rfl dX4_isRemembered_37 ?_
      obtain ⟨r3, h3, hm⟩ := o1_some hm
      refine q_callV (pc := 40) (k := 21) (As := [.int r2]) (rest := []) (T := TX5) C (c_Row_holds_21 hi h3) (by decide) (ce_21 _ _ _) (ci := 5) rfl tw_567 tw_384 tw_385 tw_43 tw_386 (nA := 1) (by decide +kernel) rfl (by decide) (Nat.le_of_ble_eq_true rfl) rfl dX4_isRemembered_40 ?_
      refine q_if_eq (pc := 43) (tgt := 48) C dX4_isRemembered_43 (by decide) (fun c2 => ?_) (fun c2 => ?_)
      · replace hm := hm_t c2 hm
        refine q_iinc (pc := 48) (k := 2) (v := (v2 + (1 : Int32))) (lv' := [(2, .int (v2 + (1 : Int32))), (0, .ref (gad G 18)), (1, .int v1)]) C dX4_isRemembered_48 rfl rfl (by decide) rfl ?_
        refine q_goto (pc := 51) (tgt := 15) C dX4_isRemembered_51 (by decide) ?_
        refine q_lv (lv' := [(0, .ref (gad G 18)), (1, .int v1), (2, .int (v2 + (1 : Int32)))]) [1, 2, 0] rfl ?_
        exact ih _ _ _ _ hm
      · replace hm := hm_f c2 hm
        refine q_iconst (pc := 46) (v := (1 : Int32)) C dX4_isRemembered_46 (by decide) ?_
        cases hm
        exact q_zret (pc := 47) C (by decide) dX4_isRemembered_47
set_option maxRecDepth 100000 in
theorem c_Nur_isRemembered {G : Gx} (hi : qinj (gad G)) {S : St} {a1 : Int32} {zr : Int32} (hm : m_Nur_isRemembered S a1 = some zr) : QMet G yX4_isRemembered cX4_isRemembered 3 (some .boolean) 1 22 [.ref (gad G 18), .int a1] S (some (.int zr)) S := by
  refine q_entry (by decide +kernel) rfl hi (Nat.le_of_ble_eq_true rfl) ?_
  intro X C
  refine q_lv (lv' := [(0, .ref (gad G 18)), (1, .int a1)]) [0, 1] rfl ?_
  unfold m_Nur_isRemembered at hm
  refine q_aload_n (pc := 0) C dX4_isRemembered_0 rfl 0 rfl ?_
  refine q_get (pc := 1) (T := TX4) (v := .ref (gad G 24)) C (by decide) (ce_18 _ _ _) (ci := 4) rfl inlX4 (j := 12) (by decide) rfl tw_56 (Or.inl rfl) dX4_isRemembered_1 ?_
  refine q_iload_n (pc := 4) C dX4_isRemembered_4 rfl 1 rfl ?_
  obtain ⟨r1, h1, hm⟩ := o1_some hm
  refine q_callV (pc := 5) (k := 24) (As := [.int a1]) (rest := []) (T := TX5) C (c_Row_holds_24 hi h1) (by decide) (ce_24 _ _ _) (ci := 5) rfl tw_567 tw_384 tw_385 tw_43 tw_386 (nA := 1) (by decide +kernel) rfl (by decide) (Nat.le_of_ble_eq_true rfl) rfl dX4_isRemembered_5 ?_
  refine q_if_ne (pc := 8) (tgt := 13) C dX4_isRemembered_8 (by decide) (fun c1 => ?_) (fun c1 => ?_)
  · replace hm := hm_f c1 hm
    refine q_iconst (pc := 13) (v := (0 : Int32)) C dX4_isRemembered_13 (by decide) ?_
    refine q_istore_n (pc := 14) (lv' := [(2, .int (0 : Int32)), (0, .ref (gad G 18)), (1, .int a1)]) C dX4_isRemembered_14 rfl (by decide) rfl ?_
    refine q_lv (lv' := [(0, .ref (gad G 18)), (1, .int a1), (2, .int (0 : Int32))]) [1, 2, 0] rfl ?_
    exact w_Nur_isRemembered_L15 hi C 200 _ _ _ _ hm
  · replace hm := hm_t c1 hm
    refine q_iconst (pc := 11) (v := (0 : Int32)) C dX4_isRemembered_11 (by decide) ?_
    cases hm
    exact q_zret (pc := 12) C (by decide) dX4_isRemembered_12
set_option maxRecDepth 100000 in
theorem c_Cou_countOf {G : Gx} (hi : qinj (gad G)) {S : St} {a1 : Int32} {zr : Int32} (hm : m_Cou_countOf S a1 = some zr) : QMet G yX1_countOf cX1_countOf 2 (some .int) 1 21 [.ref (gad G 42), .int a1] S (some (.int zr)) S := by
  refine q_entry (by decide +kernel) rfl hi (Nat.le_of_ble_eq_true rfl) ?_
  intro X C
  refine q_lv (lv' := [(0, .ref (gad G 42)), (1, .int a1)]) [0, 1] rfl ?_
  unfold m_Cou_countOf at hm
  refine q_aload_n (pc := 0) C dX1_countOf_0 rfl 0 rfl ?_
  refine q_iload_n (pc := 1) C dX1_countOf_1 rfl 1 rfl ?_
  obtain ⟨r1, h1, hm⟩ := o1_some hm
  refine q_callU (pc := 2) (k := 42) (As := [.int a1]) (rest := []) (T := TX1) (owner := "Tessera$Store") (x := ⟨"Tessera$Counting", "has", "(I)Z"⟩) C (c_St_has_42 hi h1) (by decide) (ce_42 _ _ _) (ci := 1) rfl (Or.inl rfl) tw_365 tw_366 tw_256 tw_367 tw_62 tw_257 (nA := 1) (by decide +kernel) rfl (by decide) (Nat.le_of_ble_eq_true rfl) rfl dX1_countOf_2 ?_
  refine q_if_eq (pc := 5) (tgt := 17) C dX1_countOf_5 (by decide) (fun c1 => ?_) (fun c1 => ?_)
  · replace hm := hm_t c1 hm
    refine q_iconst (pc := 17) (v := (-1 : Int32)) C dX1_countOf_17 (by decide) ?_
    cases hm
    exact q_iret (pc := 18) C dX1_countOf_18
  · replace hm := hm_f c1 hm
    refine q_aload_n (pc := 8) C dX1_countOf_8 rfl 0 rfl ?_
    refine q_get (pc := 9) (T := TX1) (v := .ref (gad G 46)) C (by decide) (ce_42 _ _ _) (ci := 1) rfl inlX1 (j := 11) (by decide) rfl tw_85 (Or.inl rfl) dX1_countOf_9 ?_
    refine q_iload_n (pc := 12) C dX1_countOf_12 rfl 1 rfl ?_
    obtain ⟨b1, hm⟩ := oi_some hm
    refine q_iald (pc := 13) C (by decide) (ce_46 _ _ _) (ty_46 _) b1 dX1_countOf_13 ?_
    refine q_goto (pc := 14) (tgt := 18) C dX1_countOf_14 (by decide) ?_
    cases hm
    exact q_iret (pc := 18) C dX1_countOf_18
set_option maxRecDepth 100000 in
theorem c_Te_kept {G : Gx} (hi : qinj (gad G)) {S : St} {a1 : Int32} {a2 : Int32} {zr : Int32} (hm : m_Te_kept S a1 a2 = some zr) : QMet G yX8_kept cX8_kept 3 (some .int) 3 63 [.ref (gad G 0), .int a1, .int a2] S (some (.int zr)) S := by
  refine q_entry (by decide +kernel) rfl hi (Nat.le_of_ble_eq_true rfl) ?_
  intro X C
  refine q_lv (lv' := [(0, .ref (gad G 0)), (1, .int a1), (2, .int a2)]) [0, 1, 2] rfl ?_
  unfold m_Te_kept at hm
  refine q_aload_n (pc := 0) C dX8_kept_0 rfl 0 rfl ?_
  refine q_iload_n (pc := 1) C dX8_kept_1 rfl 1 rfl ?_
  obtain ⟨u1, h1, hm⟩ := o1_some hm
  refine q_callV (pc := 2) (k := 0) (As := [.int a1]) (rest := []) (T := TX8) C (c_Te_checkThing hi h1) (by decide) (ce_0 _ _ _) (ci := 6) rfl tw_662 tw_663 tw_664 tw_2 tw_665 (nA := 1) (by decide +kernel) rfl (by decide) (Nat.le_of_ble_eq_true rfl) rfl dX8_kept_2 ?_
  refine q_iload_n (pc := 5) C dX8_kept_5 rfl 2 rfl ?_
  refine q_iconst (pc := 6) (v := (4 : Int32)) C dX8_kept_6 (by decide) ?_
  obtain ⟨u2, h2, hm⟩ := o1_some hm
  refine q_callS (pc := 7) (As := [.int a2, .int (4 : Int32)]) (rest := []) C (c_Te_checkWhat hi h2) tw_667 tw_668 tw_2 tw_669 (nA := 2) (by decide +kernel) rfl (by decide) (Nat.le_of_ble_eq_true rfl) rfl dX8_kept_7 ?_
  refine q_iload_n (pc := 10) C dX8_kept_10 rfl 2 rfl ?_
  by_cases c1 : a2 = (0 : Int32)
  · replace hm := hm_t c1 hm
    refine q_tableIn (pc := 11) (tgt := 40) C dX8_kept_11 (by rw [c1]; decide) (by rw [c1]; decide) (by rw [c1]; rfl) (by decide) ?_
    refine q_aload_n (pc := 40) C dX8_kept_40 rfl 0 rfl ?_
    refine q_get (pc := 41) (T := TX8) (v := .ref (gad G 18)) C (by decide) (ce_0 _ _ _) (ci := 6) rfl inlX8 (j := 1) (by decide) rfl tw_28 (Or.inl rfl) dX8_kept_41 ?_
    refine q_iload_n (pc := 44) C dX8_kept_44 rfl 1 rfl ?_
    obtain ⟨r1, h3, hm⟩ := o1_some hm
    refine q_callV (pc := 45) (k := 18) (As := [.int a1]) (rest := []) (T := TX4) C (c_Nur_ageOf hi h3) (by decide) (ce_18 _ _ _) (ci := 4) rfl tw_763 tw_764 tw_765 tw_16 tw_766 (nA := 1) (by decide +kernel) rfl (by decide) (Nat.le_of_ble_eq_true rfl) rfl dX8_kept_45 ?_
    cases hm
    exact q_iret (pc := 48) C dX8_kept_48
  replace hm := hm_f c1 hm
  by_cases c2 : a2 = (1 : Int32)
  · replace hm := hm_t c2 hm
    refine q_tableIn (pc := 11) (tgt := 49) C dX8_kept_11 (by rw [c2]; decide) (by rw [c2]; decide) (by rw [c2]; rfl) (by decide) ?_
    refine q_aload_n (pc := 49) C dX8_kept_49 rfl 0 rfl ?_
    refine q_get (pc := 50) (T := TX8) (v := .ref (gad G 18)) C (by decide) (ce_0 _ _ _) (ci := 6) rfl inlX8 (j := 1) (by decide) rfl tw_28 (Or.inl rfl) dX8_kept_50 ?_
    refine q_iload_n (pc := 53) C dX8_kept_53 rfl 1 rfl ?_
    obtain ⟨r2, h4, hm⟩ := o1_some hm
    refine q_callU (pc := 54) (k := 18) (As := [.int a1]) (rest := []) (T := TX4) (owner := "Tessera$Store") (x := ⟨"Tessera$Nursery", "has", "(I)Z"⟩) C (c_St_has_18 hi h4) (by decide) (ce_18 _ _ _) (ci := 4) rfl (Or.inl rfl) tw_770 tw_768 tw_256 tw_769 tw_62 tw_257 (nA := 1) (by decide +kernel) rfl (by decide) (Nat.le_of_ble_eq_true rfl) rfl dX8_kept_54 ?_
    refine q_if_eq (pc := 57) (tgt := 74) C dX8_kept_57 (by decide) (fun c3 => ?_) (fun c3 => ?_)
    · replace hm := hm_t c3 hm
      refine q_iconst (pc := 74) (v := (-1 : Int32)) C dX8_kept_74 (by decide) ?_
      cases hm
      exact q_iret (pc := 75) C dX8_kept_75
    · replace hm := hm_f c3 hm
      refine q_aload_n (pc := 60) C dX8_kept_60 rfl 0 rfl ?_
      refine q_get (pc := 61) (T := TX8) (v := .ref (gad G 18)) C (by decide) (ce_0 _ _ _) (ci := 6) rfl inlX8 (j := 1) (by decide) rfl tw_28 (Or.inl rfl) dX8_kept_61 ?_
      refine q_iload_n (pc := 64) C dX8_kept_64 rfl 1 rfl ?_
      obtain ⟨r3, h5, hm⟩ := o1_some hm
      refine q_callV (pc := 65) (k := 18) (As := [.int a1]) (rest := []) (T := TX4) C (c_Nur_isRemembered hi h5) (by decide) (ce_18 _ _ _) (ci := 4) rfl tw_771 tw_772 tw_773 tw_16 tw_774 (nA := 1) (by decide +kernel) rfl (by decide) (Nat.le_of_ble_eq_true rfl) rfl dX8_kept_65 ?_
      obtain ⟨r4, h6, hm⟩ := o1_some hm
      refine q_callS (pc := 68) (As := [.int r3]) (rest := []) C (c_Te_asNumber hi h6) tw_671 tw_672 tw_2 tw_673 (nA := 1) (by decide +kernel) rfl (by decide) (Nat.le_of_ble_eq_true rfl) rfl dX8_kept_68 ?_
      refine q_goto (pc := 71) (tgt := 75) C dX8_kept_71 (by decide) ?_
      cases hm
      exact q_iret (pc := 75) C dX8_kept_75
  replace hm := hm_f c2 hm
  by_cases c4 : a2 = (2 : Int32)
  · replace hm := hm_t c4 hm
    refine q_tableIn (pc := 11) (tgt := 76) C dX8_kept_11 (by rw [c4]; decide) (by rw [c4]; decide) (by rw [c4]; rfl) (by decide) ?_
    refine q_aload_n (pc := 76) C dX8_kept_76 rfl 0 rfl ?_
    refine q_get (pc := 77) (T := TX8) (v := .ref (gad G 31)) C (by decide) (ce_0 _ _ _) (ci := 6) rfl inlX8 (j := 2) (by decide) rfl tw_29 (Or.inl rfl) dX8_kept_77 ?_
    refine q_iload_n (pc := 80) C dX8_kept_80 rfl 1 rfl ?_
    obtain ⟨r5, h7, hm⟩ := o1_some hm
    refine q_callV (pc := 81) (k := 31) (As := [.int a1]) (rest := []) (T := TX3) C (c_Mar_colourOf hi h7) (by decide) (ce_31 _ _ _) (ci := 3) rfl tw_775 tw_432 tw_433 tw_19 tw_434 (nA := 1) (by decide +kernel) rfl (by decide) (Nat.le_of_ble_eq_true rfl) rfl dX8_kept_81 ?_
    cases hm
    exact q_iret (pc := 84) C dX8_kept_84
  replace hm := hm_f c4 hm
  by_cases c5 : a2 = (3 : Int32)
  · replace hm := hm_t c5 hm
    refine q_tableIn (pc := 11) (tgt := 85) C dX8_kept_11 (by rw [c5]; decide) (by rw [c5]; decide) (by rw [c5]; rfl) (by decide) ?_
    refine q_aload_n (pc := 85) C dX8_kept_85 rfl 0 rfl ?_
    refine q_get (pc := 86) (T := TX8) (v := .ref (gad G 42)) C (by decide) (ce_0 _ _ _) (ci := 6) rfl inlX8 (j := 3) (by decide) rfl tw_30 (Or.inl rfl) dX8_kept_86 ?_
    refine q_iload_n (pc := 89) C dX8_kept_89 rfl 1 rfl ?_
    obtain ⟨r6, h8, hm⟩ := o1_some hm
    refine q_callV (pc := 90) (k := 42) (As := [.int a1]) (rest := []) (T := TX1) C (c_Cou_countOf hi h8) (by decide) (ce_42 _ _ _) (ci := 1) rfl tw_776 tw_777 tw_778 tw_22 tw_779 (nA := 1) (by decide +kernel) rfl (by decide) (Nat.le_of_ble_eq_true rfl) rfl dX8_kept_90 ?_
    cases hm
    exact q_iret (pc := 93) C dX8_kept_93
  replace hm := hm_f c5 hm
  refine q_tableOut (pc := 11) (tgt := 94) C dX8_kept_11 (q_out 3 (by decide) [(0 : Int32), (1 : Int32), (2 : Int32), (3 : Int32)] (by decide) (by simp [c1, c2, c4, c5])) (by decide) ?_
  refine q_aload_n (pc := 94) C dX8_kept_94 rfl 0 rfl ?_
  refine q_get (pc := 95) (T := TX8) (v := .ref (gad G 42)) C (by decide) (ce_0 _ _ _) (ci := 6) rfl inlX8 (j := 3) (by decide) rfl tw_30 (Or.inl rfl) dX8_kept_95 ?_
  refine q_iload_n (pc := 98) C dX8_kept_98 rfl 1 rfl ?_
  obtain ⟨r7, h9, hm⟩ := o1_some hm
  refine q_callU (pc := 99) (k := 42) (As := [.int a1]) (rest := []) (T := TX1) (owner := "Tessera$Store") (x := ⟨"Tessera$Counting", "has", "(I)Z"⟩) C (c_St_has_42 hi h9) (by decide) (ce_42 _ _ _) (ci := 1) rfl (Or.inl rfl) tw_780 tw_366 tw_256 tw_367 tw_62 tw_257 (nA := 1) (by decide +kernel) rfl (by decide) (Nat.le_of_ble_eq_true rfl) rfl dX8_kept_99 ?_
  refine q_if_eq (pc := 102) (tgt := 119) C dX8_kept_102 (by decide) (fun c6 => ?_) (fun c6 => ?_)
  · replace hm := hm_t c6 hm
    refine q_iconst (pc := 119) (v := (-1 : Int32)) C dX8_kept_119 (by decide) ?_
    cases hm
    exact q_iret (pc := 120) C dX8_kept_120
  · replace hm := hm_f c6 hm
    refine q_aload_n (pc := 105) C dX8_kept_105 rfl 0 rfl ?_
    refine q_get (pc := 106) (T := TX8) (v := .ref (gad G 42)) C (by decide) (ce_0 _ _ _) (ci := 6) rfl inlX8 (j := 3) (by decide) rfl tw_30 (Or.inl rfl) dX8_kept_106 ?_
    refine q_iload_n (pc := 109) C dX8_kept_109 rfl 1 rfl ?_
    obtain ⟨r8, h10, hm⟩ := o1_some hm
    refine q_callV (pc := 110) (k := 42) (As := [.int a1]) (rest := []) (T := TX1) C (c_Cou_isSuspect hi h10) (by decide) (ce_42 _ _ _) (ci := 1) rfl tw_781 tw_362 tw_363 tw_22 tw_364 (nA := 1) (by decide +kernel) rfl (by decide) (Nat.le_of_ble_eq_true rfl) rfl dX8_kept_110 ?_
    obtain ⟨r9, h11, hm⟩ := o1_some hm
    refine q_callS (pc := 113) (As := [.int r8]) (rest := []) C (c_Te_asNumber hi h11) tw_671 tw_672 tw_2 tw_673 (nA := 1) (by decide +kernel) rfl (by decide) (Nat.le_of_ble_eq_true rfl) rfl dX8_kept_113 ?_
    refine q_goto (pc := 116) (tgt := 120) C dX8_kept_116 (by decide) ?_
    cases hm
    exact q_iret (pc := 120) C dX8_kept_120
set_option maxRecDepth 100000 in
theorem c_Te_mixed {G : Gx} (hi : qinj (gad G)) {S : St} {a0 : Int64} {a2 : Int32} {zr : Int64} (hm : m_Te_mixed S a0 a2 = some zr) : QMet G yX8_mixed cX8_mixed 3 (some .long) 0 0 [.long a0, .int a2] S (some (.long zr)) S := by
  refine q_entry (by decide +kernel) rfl hi (Nat.le_of_ble_eq_true rfl) ?_
  intro X C
  refine q_lv (lv' := [(0, .long a0), (2, .int a2)]) [0, 1] rfl ?_
  unfold m_Te_mixed at hm
  refine q_lload_n (pc := 0) C dX8_mixed_0 rfl 0 rfl ?_
  refine q_ldc2 (pc := 1) (v := 31) C tw_790 dX8_mixed_1 ?_
  refine q_lmul (pc := 4) C dX8_mixed_4 ?_
  refine q_iload_n (pc := 5) C dX8_mixed_5 rfl 1 rfl ?_
  refine q_i2l (pc := 6) C dX8_mixed_6 ?_
  refine q_ladd (pc := 7) C dX8_mixed_7 ?_
  cases hm
  exact q_lret (pc := 8) C dX8_mixed_8
set_option maxRecDepth 100000 in
theorem w_Te_mixedThing_L35 {G : Gx} (hi : qinj (gad G)) {X : Cx} (C : QC G X cX8_mixedThing 7 RX8 4 85 (some .long)) {Q : State → Prop} : ∀ (n : Nat) (S : St) (v3 : Int32) (v4 : Int64) (v6 : Int32) (x4 : Int64), m_Te_mixedThing_L35 n S v3 v4 v6 = some x4 → QW G X 7 Q 71 [(0, .ref (gad G 0)), (3, .int v3), (4, .long x4)] [] S → QW G X 7 Q 35 [(0, .ref (gad G 0)), (3, .int v3), (4, .long v4), (6, .int v6)] [] S := by
  intro n
  induction n with
  | zero =>
    intro S v3 v4 v6 x4 hm kk
    rw [m_Te_mixedThing_L35] at hm
    cases hm
  | succ n ih =>
    intro S v3 v4 v6 x4 hm kk
    rw [m_Te_mixedThing_L35] at hm
    refine q_iload (pc := 35) C dX8_mixedThing_35 3 rfl ?_
    refine q_aload_n (pc := 37) C dX8_mixedThing_37 rfl 0 rfl ?_
    refine q_get (pc := 38) (T := TX8) (v := .ref (gad G 1)) C (by decide) (ce_0 _ _ _) (ci := 6) rfl inlX8 (j := 0) (by decide) rfl tw_27 (Or.inl rfl) dX8_mixedThing_38 ?_
    refine q_iload_n (pc := 41) C dX8_mixedThing_41 rfl 1 rfl ?_
    obtain ⟨r1, h1, hm⟩ := o1_some hm
    refine q_callV (pc := 42) (k := 1) (As := [.int v3]) (rest := [.int v6]) (T := TX2) C (c_Gr_fieldsOf hi h1) (by decide) (ce_1 _ _ _) (ci := 2) rfl tw_670 tw_279 tw_280 tw_13 tw_281 (nA := 1) (by decide +kernel) rfl (by decide) (Nat.le_of_ble_eq_true rfl) rfl dX8_mixedThing_42 ?_
    refine q_icmp_ge (pc := 45) (tgt := 71) C dX8_mixedThing_45 (by decide) (fun c1 => ?_) (fun c1 => ?_)
    · replace hm := hm_t c1 hm
      cases hm
      refine q_lv (lv' := [(0, .ref (gad G 0)), (3, .int v3), (4, .long v4)]) [0, 1, 2] rfl ?_
      exact kk
    · replace hm := hm_f c1 hm
      refine q_lload (pc := 48) C dX8_mixedThing_48 2 rfl ?_
      refine q_aload_n (pc := 50) C dX8_mixedThing_50 rfl 0 rfl ?_
      refine q_get (pc := 51) (T := TX8) (v := .ref (gad G 1)) C (by decide) (ce_0 _ _ _) (ci := 6) rfl inlX8 (j := 0) (by decide) rfl tw_27 (Or.inl rfl) dX8_mixedThing_51 ?_
      refine q_iload_n (pc := 54) C dX8_mixedThing_54 rfl 1 rfl ?_
      refine q_iload (pc := 55) C dX8_mixedThing_55 3 rfl ?_
      obtain ⟨r2, h2, hm⟩ := o1_some hm
      refine q_callV (pc := 57) (k := 1) (As := [.int v3, .int v6]) (rest := [.long v4]) (T := TX2) C (c_Gr_nameOf hi h2) (by decide) (ce_1 _ _ _) (ci := 2) rfl tw_683 tw_283 tw_284 tw_13 tw_285 (nA := 2) (by decide +kernel) rfl (by decide) (Nat.le_of_ble_eq_true rfl) rfl dX8_mixedThing_57 ?_
      obtain ⟨r3, h3, hm⟩ := o1_some hm
      refine q_callS (pc := 60) (As := [.long v4, .int r2]) (rest := []) C (c_Te_mixed hi h3) tw_787 tw_788 tw_2 tw_789 (nA := 2) (by decide +kernel) rfl (by decide) (Nat.le_of_ble_eq_true rfl) rfl dX8_mixedThing_60 ?_
      refine q_lstore (pc := 63) (lv' := [(4, .long r3), (0, .ref (gad G 0)), (3, .int v3), (6, .int v6)]) C dX8_mixedThing_63 (by decide) rfl ?_
      refine q_iinc (pc := 65) (k := 3) (v := (v6 + (1 : Int32))) (lv' := [(6, .int (v6 + (1 : Int32))), (4, .long r3), (0, .ref (gad G 0)), (3, .int v3)]) C dX8_mixedThing_65 rfl rfl (by decide) rfl ?_
      refine q_goto (pc := 68) (tgt := 35) C dX8_mixedThing_68 (by decide) ?_
      refine q_lv (lv' := [(0, .ref (gad G 0)), (3, .int v3), (4, .long r3), (6, .int (v6 + (1 : Int32)))]) [2, 3, 1, 0] rfl ?_
      exact ih _ _ _ _ _ hm kk
set_option maxRecDepth 100000 in
theorem c_Te_mixedThing {G : Gx} (hi : qinj (gad G)) {S : St} {a1 : Int64} {a3 : Int32} {zr : Int64} (hm : m_Te_mixedThing S a1 a3 = some zr) : QMet G yX8_mixedThing cX8_mixedThing 7 (some .long) 4 85 [.ref (gad G 0), .long a1, .int a3] S (some (.long zr)) S := by
  refine q_entry (by decide +kernel) rfl hi (Nat.le_of_ble_eq_true rfl) ?_
  intro X C
  refine q_lv (lv' := [(0, .ref (gad G 0)), (1, .long a1), (3, .int a3)]) [0, 1, 2] rfl ?_
  unfold m_Te_mixedThing at hm
  refine q_lload_n (pc := 0) C dX8_mixedThing_0 rfl 1 rfl ?_
  refine q_lstore (pc := 1) (lv' := [(4, .long a1), (0, .ref (gad G 0)), (1, .long a1), (3, .int a3)]) C dX8_mixedThing_1 (by decide) rfl ?_
  refine q_iconst (pc := 3) (v := (0 : Int32)) C dX8_mixedThing_3 (by decide) ?_
  refine q_istore (pc := 4) (lv' := [(6, .int (0 : Int32)), (4, .long a1), (0, .ref (gad G 0)), (1, .long a1), (3, .int a3)]) C dX8_mixedThing_4 (by decide) rfl ?_
  refine q_iload (pc := 6) C dX8_mixedThing_6 0 rfl ?_
  refine q_iconst (pc := 8) (v := (2 : Int32)) C dX8_mixedThing_8 (by decide) ?_
  refine q_icmp_gt (pc := 9) (tgt := 32) C dX8_mixedThing_9 (by decide) (fun c => absurd c (by decide)) (fun _ => ?_)
  refine q_lload (pc := 12) C dX8_mixedThing_12 1 rfl ?_
  refine q_aload_n (pc := 14) C dX8_mixedThing_14 rfl 2 rfl ?_
  refine q_iload_n (pc := 15) C dX8_mixedThing_15 rfl 4 rfl ?_
  refine q_iload (pc := 16) C dX8_mixedThing_16 0 rfl ?_
  obtain ⟨r1, h1, hm⟩ := o1_some hm
  refine q_callV (pc := 18) (k := 0) (As := [.int a3, .int (0 : Int32)]) (rest := [.long a1]) (T := TX8) C (c_Te_ofThing hi h1) (by decide) (ce_0 _ _ _) (ci := 6) rfl tw_795 tw_659 tw_660 tw_2 tw_661 (nA := 2) (by decide +kernel) rfl (by decide) (Nat.le_of_ble_eq_true rfl) rfl dX8_mixedThing_18 ?_
  obtain ⟨r2, h2, hm⟩ := o1_some hm
  refine q_callS (pc := 21) (As := [.long a1, .int r1]) (rest := []) C (c_Te_mixed hi h2) tw_787 tw_788 tw_2 tw_789 (nA := 2) (by decide +kernel) rfl (by decide) (Nat.le_of_ble_eq_true rfl) rfl dX8_mixedThing_21 ?_
  refine q_lstore (pc := 24) (lv' := [(4, .long r2), (6, .int (0 : Int32)), (0, .ref (gad G 0)), (1, .long a1), (3, .int a3)]) C dX8_mixedThing_24 (by decide) rfl ?_
  refine q_iinc (pc := 26) (k := 1) (v := (1 : Int32)) (lv' := [(6, .int (1 : Int32)), (4, .long r2), (0, .ref (gad G 0)), (1, .long a1), (3, .int a3)]) C dX8_mixedThing_26 rfl (by decide) (by decide) rfl ?_
  refine q_goto (pc := 29) (tgt := 6) C dX8_mixedThing_29 (by decide) ?_
  refine q_iload (pc := 6) C dX8_mixedThing_6 0 rfl ?_
  refine q_iconst (pc := 8) (v := (2 : Int32)) C dX8_mixedThing_8 (by decide) ?_
  refine q_icmp_gt (pc := 9) (tgt := 32) C dX8_mixedThing_9 (by decide) (fun c => absurd c (by decide)) (fun _ => ?_)
  refine q_lload (pc := 12) C dX8_mixedThing_12 1 rfl ?_
  refine q_aload_n (pc := 14) C dX8_mixedThing_14 rfl 2 rfl ?_
  refine q_iload_n (pc := 15) C dX8_mixedThing_15 rfl 4 rfl ?_
  refine q_iload (pc := 16) C dX8_mixedThing_16 0 rfl ?_
  obtain ⟨r3, h3, hm⟩ := o1_some hm
  refine q_callV (pc := 18) (k := 0) (As := [.int a3, .int (1 : Int32)]) (rest := [.long r2]) (T := TX8) C (c_Te_ofThing hi h3) (by decide) (ce_0 _ _ _) (ci := 6) rfl tw_795 tw_659 tw_660 tw_2 tw_661 (nA := 2) (by decide +kernel) rfl (by decide) (Nat.le_of_ble_eq_true rfl) rfl dX8_mixedThing_18 ?_
  obtain ⟨r4, h4, hm⟩ := o1_some hm
  refine q_callS (pc := 21) (As := [.long r2, .int r3]) (rest := []) C (c_Te_mixed hi h4) tw_787 tw_788 tw_2 tw_789 (nA := 2) (by decide +kernel) rfl (by decide) (Nat.le_of_ble_eq_true rfl) rfl dX8_mixedThing_21 ?_
  refine q_lstore (pc := 24) (lv' := [(4, .long r4), (6, .int (1 : Int32)), (0, .ref (gad G 0)), (1, .long a1), (3, .int a3)]) C dX8_mixedThing_24 (by decide) rfl ?_
  refine q_iinc (pc := 26) (k := 1) (v := (2 : Int32)) (lv' := [(6, .int (2 : Int32)), (4, .long r4), (0, .ref (gad G 0)), (1, .long a1), (3, .int a3)]) C dX8_mixedThing_26 rfl (by decide) (by decide) rfl ?_
  refine q_goto (pc := 29) (tgt := 6) C dX8_mixedThing_29 (by decide) ?_
  refine q_iload (pc := 6) C dX8_mixedThing_6 0 rfl ?_
  refine q_iconst (pc := 8) (v := (2 : Int32)) C dX8_mixedThing_8 (by decide) ?_
  refine q_icmp_gt (pc := 9) (tgt := 32) C dX8_mixedThing_9 (by decide) (fun c => absurd c (by decide)) (fun _ => ?_)
  refine q_lload (pc := 12) C dX8_mixedThing_12 1 rfl ?_
  refine q_aload_n (pc := 14) C dX8_mixedThing_14 rfl 2 rfl ?_
  refine q_iload_n (pc := 15) C dX8_mixedThing_15 rfl 4 rfl ?_
  refine q_iload (pc := 16) C dX8_mixedThing_16 0 rfl ?_
  obtain ⟨r5, h5, hm⟩ := o1_some hm
  refine q_callV (pc := 18) (k := 0) (As := [.int a3, .int (2 : Int32)]) (rest := [.long r4]) (T := TX8) C (c_Te_ofThing hi h5) (by decide) (ce_0 _ _ _) (ci := 6) rfl tw_795 tw_659 tw_660 tw_2 tw_661 (nA := 2) (by decide +kernel) rfl (by decide) (Nat.le_of_ble_eq_true rfl) rfl dX8_mixedThing_18 ?_
  obtain ⟨r6, h6, hm⟩ := o1_some hm
  refine q_callS (pc := 21) (As := [.long r4, .int r5]) (rest := []) C (c_Te_mixed hi h6) tw_787 tw_788 tw_2 tw_789 (nA := 2) (by decide +kernel) rfl (by decide) (Nat.le_of_ble_eq_true rfl) rfl dX8_mixedThing_21 ?_
  refine q_lstore (pc := 24) (lv' := [(4, .long r6), (6, .int (2 : Int32)), (0, .ref (gad G 0)), (1, .long a1), (3, .int a3)]) C dX8_mixedThing_24 (by decide) rfl ?_
  refine q_iinc (pc := 26) (k := 1) (v := (3 : Int32)) (lv' := [(6, .int (3 : Int32)), (4, .long r6), (0, .ref (gad G 0)), (1, .long a1), (3, .int a3)]) C dX8_mixedThing_26 rfl (by decide) (by decide) rfl ?_
  refine q_goto (pc := 29) (tgt := 6) C dX8_mixedThing_29 (by decide) ?_
  refine q_iload (pc := 6) C dX8_mixedThing_6 0 rfl ?_
  refine q_iconst (pc := 8) (v := (2 : Int32)) C dX8_mixedThing_8 (by decide) ?_
  refine q_icmp_gt (pc := 9) (tgt := 32) C dX8_mixedThing_9 (by decide) (fun _ => ?_) (fun c => absurd c (by decide))
  refine q_iconst (pc := 32) (v := (0 : Int32)) C dX8_mixedThing_32 (by decide) ?_
  refine q_istore (pc := 33) (lv' := [(6, .int (0 : Int32)), (4, .long r6), (0, .ref (gad G 0)), (1, .long a1), (3, .int a3)]) C dX8_mixedThing_33 (by decide) rfl ?_
  refine q_lv (lv' := [(0, .ref (gad G 0)), (3, .int a3), (4, .long r6), (6, .int (0 : Int32))]) [2, 4, 1, 0] rfl ?_
  obtain ⟨y1, h7, hm⟩ := o1_some hm
  refine w_Te_mixedThing_L35 hi C 200 _ _ _ _ _ h7 ?_
  refine q_iconst (pc := 71) (v := (0 : Int32)) C dX8_mixedThing_71 (by decide) ?_
  refine q_istore (pc := 72) (lv' := [(6, .int (0 : Int32)), (0, .ref (gad G 0)), (3, .int a3), (4, .long y1)]) C dX8_mixedThing_72 (by decide) rfl ?_
  refine q_iload (pc := 74) C dX8_mixedThing_74 0 rfl ?_
  refine q_iconst (pc := 76) (v := (4 : Int32)) C dX8_mixedThing_76 (by decide) ?_
  refine q_icmp_ge (pc := 77) (tgt := 104) C dX8_mixedThing_77 (by decide) (fun c => absurd c (by decide)) (fun _ => ?_)
  refine q_lload (pc := 80) C dX8_mixedThing_80 3 rfl ?_
  refine q_aload_n (pc := 82) C dX8_mixedThing_82 rfl 1 rfl ?_
  refine q_get (pc := 83) (T := TX8) (v := .ref (gad G 58)) C (by decide) (ce_0 _ _ _) (ci := 6) rfl inlX8 (j := 4) (by decide) rfl tw_31 (Or.inl rfl) dX8_mixedThing_83 ?_
  refine q_iload (pc := 86) C dX8_mixedThing_86 0 rfl ?_
  refine q_aald (pc := 88) (k := 12) (n := 0) C (by decide) (by decide) rfl dX8_mixedThing_88 ?_
  refine q_iload_n (pc := 89) C dX8_mixedThing_89 rfl 2 rfl ?_
  obtain ⟨r7, h8, hm⟩ := o1_some hm
  refine q_callU (pc := 90) (k := 12) (As := [.int a3]) (rest := [.long y1]) (T := TX0) (owner := "Tessera$Store") (x := ⟨"Tessera$Store", "placeOf", "(I)I"⟩) C (c_St_placeOf_12 hi h8) (by decide) (ce_12 _ _ _) (ci := 0) rfl (Or.inl rfl) tw_753 tw_754 tw_341 tw_755 tw_62 tw_342 (nA := 1) (by decide +kernel) rfl (by decide) (Nat.le_of_ble_eq_true rfl) rfl dX8_mixedThing_90 ?_
  obtain ⟨r8, h9, hm⟩ := o1_some hm
  refine q_callS (pc := 93) (As := [.long y1, .int r7]) (rest := []) C (c_Te_mixed hi h9) tw_787 tw_788 tw_2 tw_789 (nA := 2) (by decide +kernel) rfl (by decide) (Nat.le_of_ble_eq_true rfl) rfl dX8_mixedThing_93 ?_
  refine q_lstore (pc := 96) (lv' := [(4, .long r8), (6, .int (0 : Int32)), (0, .ref (gad G 0)), (3, .int a3)]) C dX8_mixedThing_96 (by decide) rfl ?_
  refine q_iinc (pc := 98) (k := 1) (v := (1 : Int32)) (lv' := [(6, .int (1 : Int32)), (4, .long r8), (0, .ref (gad G 0)), (3, .int a3)]) C dX8_mixedThing_98 rfl (by decide) (by decide) rfl ?_
  refine q_goto (pc := 101) (tgt := 74) C dX8_mixedThing_101 (by decide) ?_
  refine q_iload (pc := 74) C dX8_mixedThing_74 0 rfl ?_
  refine q_iconst (pc := 76) (v := (4 : Int32)) C dX8_mixedThing_76 (by decide) ?_
  refine q_icmp_ge (pc := 77) (tgt := 104) C dX8_mixedThing_77 (by decide) (fun c => absurd c (by decide)) (fun _ => ?_)
  refine q_lload (pc := 80) C dX8_mixedThing_80 1 rfl ?_
  refine q_aload_n (pc := 82) C dX8_mixedThing_82 rfl 2 rfl ?_
  refine q_get (pc := 83) (T := TX8) (v := .ref (gad G 58)) C (by decide) (ce_0 _ _ _) (ci := 6) rfl inlX8 (j := 4) (by decide) rfl tw_31 (Or.inl rfl) dX8_mixedThing_83 ?_
  refine q_iload (pc := 86) C dX8_mixedThing_86 0 rfl ?_
  refine q_aald (pc := 88) (k := 18) (n := 1) C (by decide) (by decide) rfl dX8_mixedThing_88 ?_
  refine q_iload_n (pc := 89) C dX8_mixedThing_89 rfl 3 rfl ?_
  obtain ⟨r9, h10, hm⟩ := o1_some hm
  refine q_callU (pc := 90) (k := 18) (As := [.int a3]) (rest := [.long r8]) (T := TX4) (owner := "Tessera$Store") (x := ⟨"Tessera$Store", "placeOf", "(I)I"⟩) C (c_St_placeOf_18 hi h10) (by decide) (ce_18 _ _ _) (ci := 4) rfl (Or.inl rfl) tw_753 tw_754 tw_341 tw_758 tw_62 tw_342 (nA := 1) (by decide +kernel) rfl (by decide) (Nat.le_of_ble_eq_true rfl) rfl dX8_mixedThing_90 ?_
  obtain ⟨r10, h11, hm⟩ := o1_some hm
  refine q_callS (pc := 93) (As := [.long r8, .int r9]) (rest := []) C (c_Te_mixed hi h11) tw_787 tw_788 tw_2 tw_789 (nA := 2) (by decide +kernel) rfl (by decide) (Nat.le_of_ble_eq_true rfl) rfl dX8_mixedThing_93 ?_
  refine q_lstore (pc := 96) (lv' := [(4, .long r10), (6, .int (1 : Int32)), (0, .ref (gad G 0)), (3, .int a3)]) C dX8_mixedThing_96 (by decide) rfl ?_
  refine q_iinc (pc := 98) (k := 1) (v := (2 : Int32)) (lv' := [(6, .int (2 : Int32)), (4, .long r10), (0, .ref (gad G 0)), (3, .int a3)]) C dX8_mixedThing_98 rfl (by decide) (by decide) rfl ?_
  refine q_goto (pc := 101) (tgt := 74) C dX8_mixedThing_101 (by decide) ?_
  refine q_iload (pc := 74) C dX8_mixedThing_74 0 rfl ?_
  refine q_iconst (pc := 76) (v := (4 : Int32)) C dX8_mixedThing_76 (by decide) ?_
  refine q_icmp_ge (pc := 77) (tgt := 104) C dX8_mixedThing_77 (by decide) (fun c => absurd c (by decide)) (fun _ => ?_)
  refine q_lload (pc := 80) C dX8_mixedThing_80 1 rfl ?_
  refine q_aload_n (pc := 82) C dX8_mixedThing_82 rfl 2 rfl ?_
  refine q_get (pc := 83) (T := TX8) (v := .ref (gad G 58)) C (by decide) (ce_0 _ _ _) (ci := 6) rfl inlX8 (j := 4) (by decide) rfl tw_31 (Or.inl rfl) dX8_mixedThing_83 ?_
  refine q_iload (pc := 86) C dX8_mixedThing_86 0 rfl ?_
  refine q_aald (pc := 88) (k := 31) (n := 2) C (by decide) (by decide) rfl dX8_mixedThing_88 ?_
  refine q_iload_n (pc := 89) C dX8_mixedThing_89 rfl 3 rfl ?_
  obtain ⟨r11, h12, hm⟩ := o1_some hm
  refine q_callU (pc := 90) (k := 31) (As := [.int a3]) (rest := [.long r10]) (T := TX3) (owner := "Tessera$Store") (x := ⟨"Tessera$Store", "placeOf", "(I)I"⟩) C (c_St_placeOf_31 hi h12) (by decide) (ce_31 _ _ _) (ci := 3) rfl (Or.inl rfl) tw_753 tw_754 tw_341 tw_757 tw_62 tw_342 (nA := 1) (by decide +kernel) rfl (by decide) (Nat.le_of_ble_eq_true rfl) rfl dX8_mixedThing_90 ?_
  obtain ⟨r12, h13, hm⟩ := o1_some hm
  refine q_callS (pc := 93) (As := [.long r10, .int r11]) (rest := []) C (c_Te_mixed hi h13) tw_787 tw_788 tw_2 tw_789 (nA := 2) (by decide +kernel) rfl (by decide) (Nat.le_of_ble_eq_true rfl) rfl dX8_mixedThing_93 ?_
  refine q_lstore (pc := 96) (lv' := [(4, .long r12), (6, .int (2 : Int32)), (0, .ref (gad G 0)), (3, .int a3)]) C dX8_mixedThing_96 (by decide) rfl ?_
  refine q_iinc (pc := 98) (k := 1) (v := (3 : Int32)) (lv' := [(6, .int (3 : Int32)), (4, .long r12), (0, .ref (gad G 0)), (3, .int a3)]) C dX8_mixedThing_98 rfl (by decide) (by decide) rfl ?_
  refine q_goto (pc := 101) (tgt := 74) C dX8_mixedThing_101 (by decide) ?_
  refine q_iload (pc := 74) C dX8_mixedThing_74 0 rfl ?_
  refine q_iconst (pc := 76) (v := (4 : Int32)) C dX8_mixedThing_76 (by decide) ?_
  refine q_icmp_ge (pc := 77) (tgt := 104) C dX8_mixedThing_77 (by decide) (fun c => absurd c (by decide)) (fun _ => ?_)
  refine q_lload (pc := 80) C dX8_mixedThing_80 1 rfl ?_
  refine q_aload_n (pc := 82) C dX8_mixedThing_82 rfl 2 rfl ?_
  refine q_get (pc := 83) (T := TX8) (v := .ref (gad G 58)) C (by decide) (ce_0 _ _ _) (ci := 6) rfl inlX8 (j := 4) (by decide) rfl tw_31 (Or.inl rfl) dX8_mixedThing_83 ?_
  refine q_iload (pc := 86) C dX8_mixedThing_86 0 rfl ?_
  refine q_aald (pc := 88) (k := 42) (n := 3) C (by decide) (by decide) rfl dX8_mixedThing_88 ?_
  refine q_iload_n (pc := 89) C dX8_mixedThing_89 rfl 3 rfl ?_
  obtain ⟨r13, h14, hm⟩ := o1_some hm
  refine q_callU (pc := 90) (k := 42) (As := [.int a3]) (rest := [.long r12]) (T := TX1) (owner := "Tessera$Store") (x := ⟨"Tessera$Store", "placeOf", "(I)I"⟩) C (c_St_placeOf_42 hi h14) (by decide) (ce_42 _ _ _) (ci := 1) rfl (Or.inl rfl) tw_753 tw_754 tw_341 tw_756 tw_62 tw_342 (nA := 1) (by decide +kernel) rfl (by decide) (Nat.le_of_ble_eq_true rfl) rfl dX8_mixedThing_90 ?_
  obtain ⟨r14, h15, hm⟩ := o1_some hm
  refine q_callS (pc := 93) (As := [.long r12, .int r13]) (rest := []) C (c_Te_mixed hi h15) tw_787 tw_788 tw_2 tw_789 (nA := 2) (by decide +kernel) rfl (by decide) (Nat.le_of_ble_eq_true rfl) rfl dX8_mixedThing_93 ?_
  refine q_lstore (pc := 96) (lv' := [(4, .long r14), (6, .int (3 : Int32)), (0, .ref (gad G 0)), (3, .int a3)]) C dX8_mixedThing_96 (by decide) rfl ?_
  refine q_iinc (pc := 98) (k := 1) (v := (4 : Int32)) (lv' := [(6, .int (4 : Int32)), (4, .long r14), (0, .ref (gad G 0)), (3, .int a3)]) C dX8_mixedThing_98 rfl (by decide) (by decide) rfl ?_
  refine q_goto (pc := 101) (tgt := 74) C dX8_mixedThing_101 (by decide) ?_
  refine q_iload (pc := 74) C dX8_mixedThing_74 0 rfl ?_
  refine q_iconst (pc := 76) (v := (4 : Int32)) C dX8_mixedThing_76 (by decide) ?_
  refine q_icmp_ge (pc := 77) (tgt := 104) C dX8_mixedThing_77 (by decide) (fun _ => ?_) (fun c => absurd c (by decide))
  refine q_iconst (pc := 104) (v := (0 : Int32)) C dX8_mixedThing_104 (by decide) ?_
  refine q_istore (pc := 105) (lv' := [(6, .int (0 : Int32)), (4, .long r14), (0, .ref (gad G 0)), (3, .int a3)]) C dX8_mixedThing_105 (by decide) rfl ?_
  refine q_iload (pc := 107) C dX8_mixedThing_107 0 rfl ?_
  refine q_iconst (pc := 109) (v := (4 : Int32)) C dX8_mixedThing_109 (by decide) ?_
  refine q_icmp_gt (pc := 110) (tgt := 133) C dX8_mixedThing_110 (by decide) (fun c => absurd c (by decide)) (fun _ => ?_)
  refine q_lload (pc := 113) C dX8_mixedThing_113 1 rfl ?_
  refine q_aload_n (pc := 115) C dX8_mixedThing_115 rfl 2 rfl ?_
  refine q_iload_n (pc := 116) C dX8_mixedThing_116 rfl 3 rfl ?_
  refine q_iload (pc := 117) C dX8_mixedThing_117 0 rfl ?_
  obtain ⟨r15, h16, hm⟩ := o1_some hm
  refine q_callV (pc := 119) (k := 0) (As := [.int a3, .int (0 : Int32)]) (rest := [.long r14]) (T := TX8) C (c_Te_kept hi h16) (by decide) (ce_0 _ _ _) (ci := 6) rfl tw_796 tw_760 tw_761 tw_2 tw_762 (nA := 2) (by decide +kernel) rfl (by decide) (Nat.le_of_ble_eq_true rfl) rfl dX8_mixedThing_119 ?_
  obtain ⟨r16, h17, hm⟩ := o1_some hm
  refine q_callS (pc := 122) (As := [.long r14, .int r15]) (rest := []) C (c_Te_mixed hi h17) tw_787 tw_788 tw_2 tw_789 (nA := 2) (by decide +kernel) rfl (by decide) (Nat.le_of_ble_eq_true rfl) rfl dX8_mixedThing_122 ?_
  refine q_lstore (pc := 125) (lv' := [(4, .long r16), (6, .int (0 : Int32)), (0, .ref (gad G 0)), (3, .int a3)]) C dX8_mixedThing_125 (by decide) rfl ?_
  refine q_iinc (pc := 127) (k := 1) (v := (1 : Int32)) (lv' := [(6, .int (1 : Int32)), (4, .long r16), (0, .ref (gad G 0)), (3, .int a3)]) C dX8_mixedThing_127 rfl (by decide) (by decide) rfl ?_
  refine q_goto (pc := 130) (tgt := 107) C dX8_mixedThing_130 (by decide) ?_
  refine q_iload (pc := 107) C dX8_mixedThing_107 0 rfl ?_
  refine q_iconst (pc := 109) (v := (4 : Int32)) C dX8_mixedThing_109 (by decide) ?_
  refine q_icmp_gt (pc := 110) (tgt := 133) C dX8_mixedThing_110 (by decide) (fun c => absurd c (by decide)) (fun _ => ?_)
  refine q_lload (pc := 113) C dX8_mixedThing_113 1 rfl ?_
  refine q_aload_n (pc := 115) C dX8_mixedThing_115 rfl 2 rfl ?_
  refine q_iload_n (pc := 116) C dX8_mixedThing_116 rfl 3 rfl ?_
  refine q_iload (pc := 117) C dX8_mixedThing_117 0 rfl ?_
  obtain ⟨r17, h18, hm⟩ := o1_some hm
  refine q_callV (pc := 119) (k := 0) (As := [.int a3, .int (1 : Int32)]) (rest := [.long r16]) (T := TX8) C (c_Te_kept hi h18) (by decide) (ce_0 _ _ _) (ci := 6) rfl tw_796 tw_760 tw_761 tw_2 tw_762 (nA := 2) (by decide +kernel) rfl (by decide) (Nat.le_of_ble_eq_true rfl) rfl dX8_mixedThing_119 ?_
  obtain ⟨r18, h19, hm⟩ := o1_some hm
  refine q_callS (pc := 122) (As := [.long r16, .int r17]) (rest := []) C (c_Te_mixed hi h19) tw_787 tw_788 tw_2 tw_789 (nA := 2) (by decide +kernel) rfl (by decide) (Nat.le_of_ble_eq_true rfl) rfl dX8_mixedThing_122 ?_
  refine q_lstore (pc := 125) (lv' := [(4, .long r18), (6, .int (1 : Int32)), (0, .ref (gad G 0)), (3, .int a3)]) C dX8_mixedThing_125 (by decide) rfl ?_
  refine q_iinc (pc := 127) (k := 1) (v := (2 : Int32)) (lv' := [(6, .int (2 : Int32)), (4, .long r18), (0, .ref (gad G 0)), (3, .int a3)]) C dX8_mixedThing_127 rfl (by decide) (by decide) rfl ?_
  refine q_goto (pc := 130) (tgt := 107) C dX8_mixedThing_130 (by decide) ?_
  refine q_iload (pc := 107) C dX8_mixedThing_107 0 rfl ?_
  refine q_iconst (pc := 109) (v := (4 : Int32)) C dX8_mixedThing_109 (by decide) ?_
  refine q_icmp_gt (pc := 110) (tgt := 133) C dX8_mixedThing_110 (by decide) (fun c => absurd c (by decide)) (fun _ => ?_)
  refine q_lload (pc := 113) C dX8_mixedThing_113 1 rfl ?_
  refine q_aload_n (pc := 115) C dX8_mixedThing_115 rfl 2 rfl ?_
  refine q_iload_n (pc := 116) C dX8_mixedThing_116 rfl 3 rfl ?_
  refine q_iload (pc := 117) C dX8_mixedThing_117 0 rfl ?_
  obtain ⟨r19, h20, hm⟩ := o1_some hm
  refine q_callV (pc := 119) (k := 0) (As := [.int a3, .int (2 : Int32)]) (rest := [.long r18]) (T := TX8) C (c_Te_kept hi h20) (by decide) (ce_0 _ _ _) (ci := 6) rfl tw_796 tw_760 tw_761 tw_2 tw_762 (nA := 2) (by decide +kernel) rfl (by decide) (Nat.le_of_ble_eq_true rfl) rfl dX8_mixedThing_119 ?_
  obtain ⟨r20, h21, hm⟩ := o1_some hm
  refine q_callS (pc := 122) (As := [.long r18, .int r19]) (rest := []) C (c_Te_mixed hi h21) tw_787 tw_788 tw_2 tw_789 (nA := 2) (by decide +kernel) rfl (by decide) (Nat.le_of_ble_eq_true rfl) rfl dX8_mixedThing_122 ?_
  refine q_lstore (pc := 125) (lv' := [(4, .long r20), (6, .int (2 : Int32)), (0, .ref (gad G 0)), (3, .int a3)]) C dX8_mixedThing_125 (by decide) rfl ?_
  refine q_iinc (pc := 127) (k := 1) (v := (3 : Int32)) (lv' := [(6, .int (3 : Int32)), (4, .long r20), (0, .ref (gad G 0)), (3, .int a3)]) C dX8_mixedThing_127 rfl (by decide) (by decide) rfl ?_
  refine q_goto (pc := 130) (tgt := 107) C dX8_mixedThing_130 (by decide) ?_
  refine q_iload (pc := 107) C dX8_mixedThing_107 0 rfl ?_
  refine q_iconst (pc := 109) (v := (4 : Int32)) C dX8_mixedThing_109 (by decide) ?_
  refine q_icmp_gt (pc := 110) (tgt := 133) C dX8_mixedThing_110 (by decide) (fun c => absurd c (by decide)) (fun _ => ?_)
  refine q_lload (pc := 113) C dX8_mixedThing_113 1 rfl ?_
  refine q_aload_n (pc := 115) C dX8_mixedThing_115 rfl 2 rfl ?_
  refine q_iload_n (pc := 116) C dX8_mixedThing_116 rfl 3 rfl ?_
  refine q_iload (pc := 117) C dX8_mixedThing_117 0 rfl ?_
  obtain ⟨r21, h22, hm⟩ := o1_some hm
  refine q_callV (pc := 119) (k := 0) (As := [.int a3, .int (3 : Int32)]) (rest := [.long r20]) (T := TX8) C (c_Te_kept hi h22) (by decide) (ce_0 _ _ _) (ci := 6) rfl tw_796 tw_760 tw_761 tw_2 tw_762 (nA := 2) (by decide +kernel) rfl (by decide) (Nat.le_of_ble_eq_true rfl) rfl dX8_mixedThing_119 ?_
  obtain ⟨r22, h23, hm⟩ := o1_some hm
  refine q_callS (pc := 122) (As := [.long r20, .int r21]) (rest := []) C (c_Te_mixed hi h23) tw_787 tw_788 tw_2 tw_789 (nA := 2) (by decide +kernel) rfl (by decide) (Nat.le_of_ble_eq_true rfl) rfl dX8_mixedThing_122 ?_
  refine q_lstore (pc := 125) (lv' := [(4, .long r22), (6, .int (3 : Int32)), (0, .ref (gad G 0)), (3, .int a3)]) C dX8_mixedThing_125 (by decide) rfl ?_
  refine q_iinc (pc := 127) (k := 1) (v := (4 : Int32)) (lv' := [(6, .int (4 : Int32)), (4, .long r22), (0, .ref (gad G 0)), (3, .int a3)]) C dX8_mixedThing_127 rfl (by decide) (by decide) rfl ?_
  refine q_goto (pc := 130) (tgt := 107) C dX8_mixedThing_130 (by decide) ?_
  refine q_iload (pc := 107) C dX8_mixedThing_107 0 rfl ?_
  refine q_iconst (pc := 109) (v := (4 : Int32)) C dX8_mixedThing_109 (by decide) ?_
  refine q_icmp_gt (pc := 110) (tgt := 133) C dX8_mixedThing_110 (by decide) (fun c => absurd c (by decide)) (fun _ => ?_)
  refine q_lload (pc := 113) C dX8_mixedThing_113 1 rfl ?_
  refine q_aload_n (pc := 115) C dX8_mixedThing_115 rfl 2 rfl ?_
  refine q_iload_n (pc := 116) C dX8_mixedThing_116 rfl 3 rfl ?_
  refine q_iload (pc := 117) C dX8_mixedThing_117 0 rfl ?_
  obtain ⟨r23, h24, hm⟩ := o1_some hm
  refine q_callV (pc := 119) (k := 0) (As := [.int a3, .int (4 : Int32)]) (rest := [.long r22]) (T := TX8) C (c_Te_kept hi h24) (by decide) (ce_0 _ _ _) (ci := 6) rfl tw_796 tw_760 tw_761 tw_2 tw_762 (nA := 2) (by decide +kernel) rfl (by decide) (Nat.le_of_ble_eq_true rfl) rfl dX8_mixedThing_119 ?_
  obtain ⟨r24, h25, hm⟩ := o1_some hm
  refine q_callS (pc := 122) (As := [.long r22, .int r23]) (rest := []) C (c_Te_mixed hi h25) tw_787 tw_788 tw_2 tw_789 (nA := 2) (by decide +kernel) rfl (by decide) (Nat.le_of_ble_eq_true rfl) rfl dX8_mixedThing_122 ?_
  refine q_lstore (pc := 125) (lv' := [(4, .long r24), (6, .int (4 : Int32)), (0, .ref (gad G 0)), (3, .int a3)]) C dX8_mixedThing_125 (by decide) rfl ?_
  refine q_iinc (pc := 127) (k := 1) (v := (5 : Int32)) (lv' := [(6, .int (5 : Int32)), (4, .long r24), (0, .ref (gad G 0)), (3, .int a3)]) C dX8_mixedThing_127 rfl (by decide) (by decide) rfl ?_
  refine q_goto (pc := 130) (tgt := 107) C dX8_mixedThing_130 (by decide) ?_
  refine q_iload (pc := 107) C dX8_mixedThing_107 0 rfl ?_
  refine q_iconst (pc := 109) (v := (4 : Int32)) C dX8_mixedThing_109 (by decide) ?_
  refine q_icmp_gt (pc := 110) (tgt := 133) C dX8_mixedThing_110 (by decide) (fun _ => ?_) (fun c => absurd c (by decide))
  refine q_lload (pc := 133) C dX8_mixedThing_133 1 rfl ?_
  cases hm
  exact q_lret (pc := 135) C dX8_mixedThing_135
set_option maxRecDepth 100000 in
theorem c_Cop_countToGo {G : Gx} (hi : qinj (gad G)) {S : St}  {zr : Int32} (hm : m_Cop_countToGo S  = some zr) : QMet G yX0_countToGo cX0_countToGo 1 (some .int) 2 43 [.ref (gad G 12)] S (some (.int zr)) S := by
  refine q_entry (by decide +kernel) rfl hi (Nat.le_of_ble_eq_true rfl) ?_
  intro X C
  refine q_lv (lv' := [(0, .ref (gad G 12))]) [0] rfl ?_
  unfold m_Cop_countToGo at hm
  refine q_aload_n (pc := 0) C dX0_countToGo_0 rfl 0 rfl ?_
  obtain ⟨r1, h1, hm⟩ := o1_some hm
  refine q_callU (pc := 1) (k := 12) (As := []) (rest := []) (T := TX0) (owner := "Tessera$Store") (x := ⟨"Tessera$Copying", "countUnreached", "()I"⟩) C (c_St_countUnreached_12 hi h1) (by decide) (ce_12 _ _ _) (ci := 0) rfl (Or.inl rfl) tw_807 tw_808 tw_735 tw_809 tw_62 tw_736 (nA := 0) (by decide +kernel) rfl (by decide) (Nat.le_of_ble_eq_true rfl) rfl dX0_countToGo_1 ?_
  cases hm
  exact q_iret (pc := 4) C dX0_countToGo_4
set_option maxRecDepth 100000 in
theorem c_Nur_countToGo {G : Gx} (hi : qinj (gad G)) {S : St}  {zr : Int32} (hm : m_Nur_countToGo S  = some zr) : QMet G yX4_countToGo cX4_countToGo 1 (some .int) 3 63 [.ref (gad G 18)] S (some (.int zr)) S := by
  refine q_entry (by decide +kernel) rfl hi (Nat.le_of_ble_eq_true rfl) ?_
  intro X C
  refine q_lv (lv' := [(0, .ref (gad G 18))]) [0] rfl ?_
  unfold m_Nur_countToGo at hm
  refine q_aload_n (pc := 0) C dX4_countToGo_0 rfl 0 rfl ?_
  obtain ⟨r1, h1, hm⟩ := o1_some hm
  refine q_callV (pc := 1) (k := 18) (As := []) (rest := []) (T := TX4) C (c_Nur_greatFits hi h1) (by decide) (ce_18 _ _ _) (ci := 4) rfl tw_516 tw_517 tw_518 tw_16 tw_519 (nA := 0) (by decide +kernel) rfl (by decide) (Nat.le_of_ble_eq_true rfl) rfl dX4_countToGo_1 ?_
  refine q_if_eq (pc := 4) (tgt := 14) C dX4_countToGo_4 (by decide) (fun c1 => ?_) (fun c1 => ?_)
  · replace hm := hm_t c1 hm
    refine q_iconst (pc := 14) (v := (0 : Int32)) C dX4_countToGo_14 (by decide) ?_
    cases hm
    exact q_iret (pc := 15) C dX4_countToGo_15
  · replace hm := hm_f c1 hm
    refine q_aload_n (pc := 7) C dX4_countToGo_7 rfl 0 rfl ?_
    obtain ⟨r2, h2, hm⟩ := o1_some hm
    refine q_callU (pc := 8) (k := 18) (As := []) (rest := []) (T := TX4) (owner := "Tessera$Store") (x := ⟨"Tessera$Nursery", "countUnreached", "()I"⟩) C (c_St_countUnreached_18 hi h2) (by decide) (ce_18 _ _ _) (ci := 4) rfl (Or.inl rfl) tw_828 tw_829 tw_735 tw_830 tw_62 tw_736 (nA := 0) (by decide +kernel) rfl (by decide) (Nat.le_of_ble_eq_true rfl) rfl dX4_countToGo_8 ?_
    refine q_goto (pc := 11) (tgt := 15) C dX4_countToGo_11 (by decide) ?_
    cases hm
    exact q_iret (pc := 15) C dX4_countToGo_15
set_option maxRecDepth 100000 in
theorem w_Row_empty_39_L2 {G : Gx} (hi : qinj (gad G)) {X : Cx} (C : QC G X cX5_empty 2 RX5 0 0 none) {Q : State → Prop} : ∀ (n : Nat) (S : St) (v1 : Int32) (zS : St), m_Row_empty_L2 39 n S v1 = some zS → QW G X 2 Q 21 [(0, .ref (gad G 39))] [] zS → QW G X 2 Q 2 [(0, .ref (gad G 39)), (1, .int v1)] [] S := by
  intro n
  induction n with
  | zero =>
    intro S v1 zS hm kk
    rw [m_Row_empty_L2] at hm
    cases hm
  | succ n ih =>
    intro S v1 zS hm kk
    rw [m_Row_empty_L2] at hm
    refine q_iload_n (pc := 2) C dX5_empty_2 rfl 1 rfl ?_
    refine q_bipush (pc := 3) (v := (80 : Int32)) C dX5_empty_3 (by decide) ?_
    refine q_icmp_ge (pc := 5) (tgt := 21) C dX5_empty_5 (by decide) (fun c1 => ?_) (fun c1 => ?_)
    · replace hm := hm_t c1 hm
      cases hm
      refine q_lv (lv' := [(0, .ref (gad G 39))]) [0] rfl ?_
      exact kk
    · replace hm := hm_f c1 hm
      refine q_aload_n (pc := 8) C dX5_empty_8 rfl 0 rfl ?_
      refine q_get (pc := 9) (T := TX5) (v := .ref (gad G 41)) C (by decide) (ce_39 _ _ _) (ci := 5) rfl inlX5 (j := 1) (by decide) rfl tw_50 (Or.inl rfl) dX5_empty_9 ?_
      refine q_iload_n (pc := 12) C dX5_empty_12 rfl 1 rfl ?_
      refine q_iconst (pc := 13) (v := (0 : Int32)) C dX5_empty_13 (by decide) ?_
      obtain ⟨b1, hm⟩ := oi_some hm
      refine q_zast0 (pc := 14) C (by decide) (fun _ => ce_41 _ _ _) (ty_41 _) b1 dX5_empty_14 ?_
      refine q_iinc (pc := 15) (k := 1) (v := (v1 + (1 : Int32))) (lv' := [(1, .int (v1 + (1 : Int32))), (0, .ref (gad G 39))]) C dX5_empty_15 rfl rfl (by decide) rfl ?_
      refine q_goto (pc := 18) (tgt := 2) C dX5_empty_18 (by decide) ?_
      refine q_lv (lv' := [(0, .ref (gad G 39)), (1, .int (v1 + (1 : Int32)))]) [1, 0] rfl ?_
      exact ih _ _ _ hm kk
set_option maxRecDepth 100000 in
theorem c_Row_empty_39 {G : Gx} (hi : qinj (gad G)) {S : St}  {zS : St} (hm : m_Row_empty 39 S  = some zS) : QMet G yX5_empty cX5_empty 2 none 0 0 [.ref (gad G 39)] S none zS := by
  refine q_entry (by decide +kernel) rfl hi (Nat.le_of_ble_eq_true rfl) ?_
  intro X C
  refine q_lv (lv' := [(0, .ref (gad G 39))]) [0] rfl ?_
  unfold m_Row_empty at hm
  refine q_iconst (pc := 0) (v := (0 : Int32)) C dX5_empty_0 (by decide) ?_
  refine q_istore_n (pc := 1) (lv' := [(1, .int (0 : Int32)), (0, .ref (gad G 39))]) C dX5_empty_1 rfl (by decide) rfl ?_
  refine q_lv (lv' := [(0, .ref (gad G 39)), (1, .int (0 : Int32))]) [1, 0] rfl ?_
  obtain ⟨S1, h1, hm⟩ := o1_some hm
  refine w_Row_empty_39_L2 hi C 200 _ _ _ h1 ?_
  refine q_aload_n (pc := 21) C dX5_empty_21 rfl 0 rfl ?_
  refine q_iconst (pc := 22) (v := (0 : Int32)) C dX5_empty_22 (by decide) ?_
  refine q_put (pc := 23) (T := TX5) (ty := .int) C tyX5 tyX5_ok nmX5 (by decide) (ce_39 _ _ _) (pe_39_2 _ _ _ _) (ci := 5) rfl inlX5 (j := 2) (by decide) (Nat.le_of_ble_eq_true rfl) tw_127 (Or.inl rfl) rfl (by decide +kernel) rfl rfl dX5_empty_23 ?_
  cases hm
  exact q_vret (pc := 26) C dX5_empty_26
set_option maxRecDepth 100000 in
theorem c_Row_add_39 {G : Gx} (hi : qinj (gad G)) {S : St} {a1 : Int32} {zS : St} (hm : m_Row_add 39 S a1 = some zS) : QMet G yX5_add cX5_add 2 none 0 0 [.ref (gad G 39), .int a1] S none zS := by
  refine q_entry (by decide +kernel) rfl hi (Nat.le_of_ble_eq_true rfl) ?_
  intro X C
  refine q_lv (lv' := [(0, .ref (gad G 39)), (1, .int a1)]) [0, 1] rfl ?_
  unfold m_Row_add at hm
  refine q_iload_n (pc := 0) C dX5_add_0 rfl 1 rfl ?_
  refine q_if_lt (pc := 1) (tgt := 28) C dX5_add_1 (by decide) (fun c1 => ?_) (fun c1 => ?_)
  · replace hm := hm_t c1 hm
    cases hm
    exact q_vret (pc := 28) C dX5_add_28
  · replace hm := hm_f c1 hm
    refine q_iload_n (pc := 4) C dX5_add_4 rfl 1 rfl ?_
    refine q_bipush (pc := 5) (v := (80 : Int32)) C dX5_add_5 (by decide) ?_
    refine q_icmp_ge (pc := 7) (tgt := 28) C dX5_add_7 (by decide) (fun c2 => ?_) (fun c2 => ?_)
    · replace hm := hm_t c2 hm
      cases hm
      exact q_vret (pc := 28) C dX5_add_28
    · replace hm := hm_f c2 hm
      refine q_aload_n (pc := 10) C dX5_add_10 rfl 0 rfl ?_
      refine q_get (pc := 11) (T := TX5) (v := .ref (gad G 41)) C (by decide) (ce_39 _ _ _) (ci := 5) rfl inlX5 (j := 1) (by decide) rfl tw_50 (Or.inl rfl) dX5_add_11 ?_
      refine q_iload_n (pc := 14) C dX5_add_14 rfl 1 rfl ?_
      obtain ⟨b1, hm⟩ := oi_some hm
      refine q_zald (pc := 15) C (by decide) (ce_41 _ _ _) (ty_41 _) b1 dX5_add_15 ?_
      refine q_if_ne (pc := 16) (tgt := 28) C dX5_add_16 (by decide) (fun c3 => ?_) (fun c3 => ?_)
      · replace hm := hm_f c3 hm
        cases hm
        exact q_vret (pc := 28) C dX5_add_28
      · replace hm := hm_t c3 hm
        refine q_aload_n (pc := 19) C dX5_add_19 rfl 0 rfl ?_
        refine q_get (pc := 20) (T := TX5) (v := .int (S 39 2)) C (by decide) (ce_39 _ _ _) (ci := 5) rfl inlX5 (j := 2) (by decide) rfl tw_127 (Or.inl rfl) dX5_add_20 ?_
        refine q_bipush (pc := 23) (v := (80 : Int32)) C dX5_add_23 (by decide) ?_
        refine q_icmp_lt (pc := 25) (tgt := 29) C dX5_add_25 (by decide) (fun c4 => ?_) (fun c4 => ?_)
        · replace hm := hm_t c4 hm
          refine q_aload_n (pc := 29) C dX5_add_29 rfl 0 rfl ?_
          refine q_get (pc := 30) (T := TX5) (v := .ref (gad G 41)) C (by decide) (ce_39 _ _ _) (ci := 5) rfl inlX5 (j := 1) (by decide) rfl tw_50 (Or.inl rfl) dX5_add_30 ?_
          refine q_iload_n (pc := 33) C dX5_add_33 rfl 1 rfl ?_
          refine q_iconst (pc := 34) (v := (1 : Int32)) C dX5_add_34 (by decide) ?_
          obtain ⟨b2, hm⟩ := oi_some hm
          refine q_zast1 (pc := 35) C (by decide) (fun _ => ce_41 _ _ _) (ty_41 _) b2 dX5_add_35 ?_
          refine q_aload_n (pc := 36) C dX5_add_36 rfl 0 rfl ?_
          refine q_get (pc := 37) (T := TX5) (v := .ref (gad G 40)) C (by decide) (ce_39 _ _ _) (ci := 5) rfl inlX5 (j := 0) (by decide) rfl tw_49 (Or.inl rfl) dX5_add_37 ?_
          refine q_aload_n (pc := 40) C dX5_add_40 rfl 0 rfl ?_
          refine q_get (pc := 41) (T := TX5) (v := .int (S 39 2)) C (by decide) (ce_39 _ _ _) (ci := 5) rfl inlX5 (j := 2) (by decide) rfl tw_127 (Or.inl rfl) dX5_add_41 ?_
          refine q_iload_n (pc := 44) C dX5_add_44 rfl 1 rfl ?_
          obtain ⟨b3, hm⟩ := oi_some hm
          refine q_iast (pc := 45) C (by decide) (fun _ => ce_40 _ _ _) (ty_40 _) b3 dX5_add_45 ?_
          refine q_aload_n (pc := 46) C dX5_add_46 rfl 0 rfl ?_
          refine q_dup (pc := 47) C dX5_add_47 rfl ?_
          refine q_get (pc := 48) (T := TX5) (v := .int (S 39 2)) C (by decide) (ce_39 _ _ _) (ci := 5) rfl inlX5 (j := 2) (by decide) rfl tw_127 (Or.inl rfl) dX5_add_48 ?_
          refine q_iconst (pc := 51) (v := (1 : Int32)) C dX5_add_51 (by decide) ?_
          refine q_iadd (pc := 52) C dX5_add_52 ?_
          refine q_put (pc := 53) (T := TX5) (ty := .int) C tyX5 tyX5_ok nmX5 (by decide) (ce_39 _ _ _) (pe_39_2 _ _ _ _) (ci := 5) rfl inlX5 (j := 2) (by decide) (Nat.le_of_ble_eq_true rfl) tw_127 (Or.inl rfl) rfl (by decide +kernel) rfl rfl dX5_add_53 ?_
          cases hm
          exact q_vret (pc := 56) C dX5_add_56
        · replace hm := hm_f c4 hm
          cases hm
          exact q_vret (pc := 28) C dX5_add_28
set_option maxRecDepth 100000 in
theorem c_Mar_foreseeIfWhite {G : Gx} (hi : qinj (gad G)) {S : St} {a1 : Int32} {zS : St} (hm : m_Mar_foreseeIfWhite S a1 = some zS) : QMet G yX3_foreseeIfWhite cX3_foreseeIfWhite 2 none 2 42 [.ref (gad G 31), .int a1] S none zS := by
  refine q_entry (by decide +kernel) rfl hi (Nat.le_of_ble_eq_true rfl) ?_
  intro X C
  refine q_lv (lv' := [(0, .ref (gad G 31)), (1, .int a1)]) [0, 1] rfl ?_
  unfold m_Mar_foreseeIfWhite at hm
  refine q_aload_n (pc := 0) C dX3_foreseeIfWhite_0 rfl 0 rfl ?_
  refine q_iload_n (pc := 1) C dX3_foreseeIfWhite_1 rfl 1 rfl ?_
  obtain ⟨r1, h1, hm⟩ := o1_some hm
  refine q_callV (pc := 2) (k := 31) (As := [.int a1]) (rest := []) (T := TX3) C (c_Mar_colourOf hi h1) (by decide) (ce_31 _ _ _) (ci := 3) rfl tw_431 tw_432 tw_433 tw_19 tw_434 (nA := 1) (by decide +kernel) rfl (by decide) (Nat.le_of_ble_eq_true rfl) rfl dX3_foreseeIfWhite_2 ?_
  refine q_if_ne (pc := 5) (tgt := 16) C dX3_foreseeIfWhite_5 (by decide) (fun c1 => ?_) (fun c1 => ?_)
  · replace hm := hm_f c1 hm
    cases hm
    exact q_vret (pc := 16) C dX3_foreseeIfWhite_16
  · replace hm := hm_t c1 hm
    refine q_aload_n (pc := 8) C dX3_foreseeIfWhite_8 rfl 0 rfl ?_
    refine q_get (pc := 9) (T := TX3) (v := .ref (gad G 39)) C (by decide) (ce_31 _ _ _) (ci := 3) rfl inlX3 (j := 13) (by decide) rfl tw_75 (Or.inl rfl) dX3_foreseeIfWhite_9 ?_
    refine q_iload_n (pc := 12) C dX3_foreseeIfWhite_12 rfl 1 rfl ?_
    obtain ⟨S1, h2, hm⟩ := o1_some hm
    refine q_callV (pc := 13) (k := 39) (As := [.int a1]) (rest := []) (T := TX5) C (c_Row_add_39 hi h2) (by decide) (ce_39 _ _ _) (ci := 5) rfl tw_443 tw_267 tw_268 tw_43 tw_269 (nA := 1) (by decide +kernel) rfl (by decide) (Nat.le_of_ble_eq_true rfl) rfl dX3_foreseeIfWhite_13 ?_
    cases hm
    exact q_vret (pc := 16) C dX3_foreseeIfWhite_16
set_option maxRecDepth 100000 in
theorem c_Row_get_39 {G : Gx} (hi : qinj (gad G)) {S : St} {a1 : Int32} {zr : Int32} (hm : m_Row_get 39 S a1 = some zr) : QMet G yX5_get cX5_get 2 (some .int) 0 0 [.ref (gad G 39), .int a1] S (some (.int zr)) S := by
  refine q_entry (by decide +kernel) rfl hi (Nat.le_of_ble_eq_true rfl) ?_
  intro X C
  refine q_lv (lv' := [(0, .ref (gad G 39)), (1, .int a1)]) [0, 1] rfl ?_
  unfold m_Row_get at hm
  refine q_iload_n (pc := 0) C dX5_get_0 rfl 1 rfl ?_
  refine q_if_lt (pc := 1) (tgt := 21) C dX5_get_1 (by decide) (fun c1 => ?_) (fun c1 => ?_)
  · replace hm := hm_t c1 hm
    refine q_iconst (pc := 21) (v := (-1 : Int32)) C dX5_get_21 (by decide) ?_
    cases hm
    exact q_iret (pc := 22) C dX5_get_22
  · replace hm := hm_f c1 hm
    refine q_iload_n (pc := 4) C dX5_get_4 rfl 1 rfl ?_
    refine q_aload_n (pc := 5) C dX5_get_5 rfl 0 rfl ?_
    refine q_get (pc := 6) (T := TX5) (v := .int (S 39 2)) C (by decide) (ce_39 _ _ _) (ci := 5) rfl inlX5 (j := 2) (by decide) rfl tw_127 (Or.inl rfl) dX5_get_6 ?_
    refine q_icmp_ge (pc := 9) (tgt := 21) C dX5_get_9 (by decide) (fun c2 => ?_) (fun c2 => ?_)
    · replace hm := hm_t c2 hm
      refine q_iconst (pc := 21) (v := (-1 : Int32)) C dX5_get_21 (by decide) ?_
      cases hm
      exact q_iret (pc := 22) C dX5_get_22
    · replace hm := hm_f c2 hm
      refine q_aload_n (pc := 12) C dX5_get_12 rfl 0 rfl ?_
      refine q_get (pc := 13) (T := TX5) (v := .ref (gad G 40)) C (by decide) (ce_39 _ _ _) (ci := 5) rfl inlX5 (j := 0) (by decide) rfl tw_49 (Or.inl rfl) dX5_get_13 ?_
      refine q_iload_n (pc := 16) C dX5_get_16 rfl 1 rfl ?_
      obtain ⟨b1, hm⟩ := oi_some hm
      refine q_iald (pc := 17) C (by decide) (ce_40 _ _ _) (ty_40 _) b1 dX5_get_17 ?_
      refine q_goto (pc := 18) (tgt := 22) C dX5_get_18 (by decide) ?_
      cases hm
      exact q_iret (pc := 22) C dX5_get_22
set_option maxRecDepth 100000 in
theorem w_Mar_foresee_L12 {G : Gx} (hi : qinj (gad G)) {X : Cx} (C : QC G X cX3_foresee 4 RX3 3 63 none) {Q : State → Prop} : ∀ (n : Nat) (S : St) (v1 : Int32) (zS : St), m_Mar_foresee_L12 n S v1 = some zS → QW G X 4 Q 51 [(0, .ref (gad G 31))] [] zS → QW G X 4 Q 12 [(0, .ref (gad G 31)), (1, .int v1)] [] S := by
  intro n
  induction n with
  | zero =>
    intro S v1 zS hm kk
    rw [m_Mar_foresee_L12] at hm
    cases hm
  | succ n ih =>
    intro S v1 zS hm kk
    rw [m_Mar_foresee_L12] at hm
    refine q_aload_n (pc := 12) C dX3_foresee_12 rfl 0 rfl ?_
    refine q_get (pc := 13) (T := TX3) (v := .int (S 31 10)) C (by decide) (ce_31 _ _ _) (ci := 3) rfl inlX3 (j := 10) (by decide) rfl tw_159 (Or.inl rfl) dX3_foresee_13 ?_
    refine q_if_eq (pc := 16) (tgt := 51) C dX3_foresee_16 (by decide) (fun c1 => ?_) (fun c1 => ?_)
    · replace hm := hm_t c1 hm
      cases hm
      refine q_lv (lv' := [(0, .ref (gad G 31))]) [0] rfl ?_
      exact kk
    · replace hm := hm_f c1 hm
      refine q_iload_n (pc := 19) C dX3_foresee_19 rfl 1 rfl ?_
      refine q_aload_n (pc := 20) C dX3_foresee_20 rfl 0 rfl ?_
      refine q_get (pc := 21) (T := TX3) (v := .ref (gad G 36)) C (by decide) (ce_31 _ _ _) (ci := 3) rfl inlX3 (j := 12) (by decide) rfl tw_74 (Or.inl rfl) dX3_foresee_21 ?_
      refine q_get (pc := 24) (T := TX5) (v := .int (S 36 2)) C (by decide) (ce_36 _ _ _) (ci := 5) rfl inlX5 (j := 2) (by decide) rfl tw_448 (Or.inl rfl) dX3_foresee_24 ?_
      refine q_icmp_ge (pc := 27) (tgt := 51) C dX3_foresee_27 (by decide) (fun c2 => ?_) (fun c2 => ?_)
      · replace hm := hm_t c2 hm
        cases hm
        refine q_lv (lv' := [(0, .ref (gad G 31))]) [0] rfl ?_
        exact kk
      · replace hm := hm_f c2 hm
        refine q_aload_n (pc := 30) C dX3_foresee_30 rfl 0 rfl ?_
        refine q_get (pc := 31) (T := TX3) (v := .ref (gad G 39)) C (by decide) (ce_31 _ _ _) (ci := 3) rfl inlX3 (j := 13) (by decide) rfl tw_75 (Or.inl rfl) dX3_foresee_31 ?_
        refine q_aload_n (pc := 34) C dX3_foresee_34 rfl 0 rfl ?_
        refine q_get (pc := 35) (T := TX3) (v := .ref (gad G 36)) C (by decide) (ce_31 _ _ _) (ci := 3) rfl inlX3 (j := 12) (by decide) rfl tw_74 (Or.inl rfl) dX3_foresee_35 ?_
        refine q_iload_n (pc := 38) C dX3_foresee_38 rfl 1 rfl ?_
        obtain ⟨r1, h1, hm⟩ := o1_some hm
        refine q_callV (pc := 39) (k := 36) (As := [.int v1]) (rest := [.ref (gad G 39)]) (T := TX5) C (c_Row_get_36 hi h1) (by decide) (ce_36 _ _ _) (ci := 5) rfl tw_464 tw_271 tw_272 tw_43 tw_273 (nA := 1) (by decide +kernel) rfl (by decide) (Nat.le_of_ble_eq_true rfl) rfl dX3_foresee_39 ?_
        obtain ⟨S1, h2, hm⟩ := o1_some hm
        refine q_callV (pc := 42) (k := 39) (As := [.int r1]) (rest := []) (T := TX5) C (c_Row_add_39 hi h2) (by decide) (ce_39 _ _ _) (ci := 5) rfl tw_443 tw_267 tw_268 tw_43 tw_269 (nA := 1) (by decide +kernel) rfl (by decide) (Nat.le_of_ble_eq_true rfl) rfl dX3_foresee_42 ?_
        refine q_iinc (pc := 45) (k := 1) (v := (v1 + (1 : Int32))) (lv' := [(1, .int (v1 + (1 : Int32))), (0, .ref (gad G 31))]) C dX3_foresee_45 rfl rfl (by decide) rfl ?_
        refine q_goto (pc := 48) (tgt := 12) C dX3_foresee_48 (by decide) ?_
        refine q_lv (lv' := [(0, .ref (gad G 31)), (1, .int (v1 + (1 : Int32)))]) [1, 0] rfl ?_
        exact ih _ _ _ hm kk
set_option maxRecDepth 100000 in
theorem w_Mar_foresee_L53 {G : Gx} (hi : qinj (gad G)) {X : Cx} (C : QC G X cX3_foresee 4 RX3 3 63 none) {Q : State → Prop} : ∀ (n : Nat) (S : St) (v1 : Int32) (zS : St), m_Mar_foresee_L53 n S v1 = some zS → QW G X 4 Q 84 [(0, .ref (gad G 31))] [] zS → QW G X 4 Q 53 [(0, .ref (gad G 31)), (1, .int v1)] [] S := by
  intro n
  induction n with
  | zero =>
    intro S v1 zS hm kk
    rw [m_Mar_foresee_L53] at hm
    cases hm
  | succ n ih =>
    intro S v1 zS hm kk
    rw [m_Mar_foresee_L53] at hm
    refine q_aload_n (pc := 53) C dX3_foresee_53 rfl 0 rfl ?_
    refine q_get (pc := 54) (T := TX3) (v := .int (S 31 10)) C (by decide) (ce_31 _ _ _) (ci := 3) rfl inlX3 (j := 10) (by decide) rfl tw_159 (Or.inl rfl) dX3_foresee_54 ?_
    refine q_if_ne (pc := 57) (tgt := 84) C dX3_foresee_57 (by decide) (fun c1 => ?_) (fun c1 => ?_)
    · replace hm := hm_f c1 hm
      cases hm
      refine q_lv (lv' := [(0, .ref (gad G 31))]) [0] rfl ?_
      exact kk
    · replace hm := hm_t c1 hm
      refine q_iload_n (pc := 60) C dX3_foresee_60 rfl 1 rfl ?_
      refine q_bipush (pc := 61) (v := (6 : Int32)) C dX3_foresee_61 (by decide) ?_
      refine q_icmp_ge (pc := 63) (tgt := 84) C dX3_foresee_63 (by decide) (fun c2 => ?_) (fun c2 => ?_)
      · replace hm := hm_t c2 hm
        cases hm
        refine q_lv (lv' := [(0, .ref (gad G 31))]) [0] rfl ?_
        exact kk
      · replace hm := hm_f c2 hm
        refine q_aload_n (pc := 66) C dX3_foresee_66 rfl 0 rfl ?_
        refine q_aload_n (pc := 67) C dX3_foresee_67 rfl 0 rfl ?_
        refine q_get (pc := 68) (T := TX3) (v := .ref (gad G 1)) C (by decide) (ce_31 _ _ _) (ci := 3) rfl inlX3 (j := 1) (by decide) rfl tw_421 (Or.inr tw_422) dX3_foresee_68 ?_
        refine q_iload_n (pc := 71) C dX3_foresee_71 rfl 1 rfl ?_
        obtain ⟨r1, h1, hm⟩ := o1_some hm
        refine q_callV (pc := 72) (k := 1) (As := [.int v1]) (rest := [.ref (gad G 31)]) (T := TX2) C (c_Gr_rootAt hi h1) (by decide) (ce_1 _ _ _) (ci := 2) rfl tw_423 tw_424 tw_425 tw_13 tw_426 (nA := 1) (by decide +kernel) rfl (by decide) (Nat.le_of_ble_eq_true rfl) rfl dX3_foresee_72 ?_
        obtain ⟨S1, h2, hm⟩ := o1_some hm
        refine q_callV (pc := 75) (k := 31) (As := [.int r1]) (rest := []) (T := TX3) C (c_Mar_foreseeIfWhite hi h2) (by decide) (ce_31 _ _ _) (ci := 3) rfl tw_820 tw_821 tw_822 tw_19 tw_823 (nA := 1) (by decide +kernel) rfl (by decide) (Nat.le_of_ble_eq_true rfl) rfl dX3_foresee_75 ?_
        refine q_iinc (pc := 78) (k := 1) (v := (v1 + (1 : Int32))) (lv' := [(1, .int (v1 + (1 : Int32))), (0, .ref (gad G 31))]) C dX3_foresee_78 rfl rfl (by decide) rfl ?_
        refine q_goto (pc := 81) (tgt := 53) C dX3_foresee_81 (by decide) ?_
        refine q_lv (lv' := [(0, .ref (gad G 31)), (1, .int (v1 + (1 : Int32)))]) [1, 0] rfl ?_
        exact ih _ _ _ hm kk
set_option maxRecDepth 100000 in
theorem w_Mar_foresee_L114 {G : Gx} (hi : qinj (gad G)) {X : Cx} (C : QC G X cX3_foresee 4 RX3 3 63 none) {Q : State → Prop} : ∀ (n : Nat) (S : St) (v1 : Int32) (v2 : Int32) (v3 : Int32) (zS : St), m_Mar_foresee_L114 n S v2 v3 = some zS → QW G X 4 Q 145 [(0, .ref (gad G 31)), (1, .int v1)] [] zS → QW G X 4 Q 114 [(0, .ref (gad G 31)), (1, .int v1), (2, .int v2), (3, .int v3)] [] S := by
  intro n
  induction n with
  | zero =>
    intro S v1 v2 v3 zS hm kk
    rw [m_Mar_foresee_L114] at hm
    cases hm
  | succ n ih =>
    intro S v1 v2 v3 zS hm kk
    rw [m_Mar_foresee_L114] at hm
    refine q_iload_n (pc := 114) C dX3_foresee_114 rfl 3 rfl ?_
    refine q_aload_n (pc := 115) C dX3_foresee_115 rfl 0 rfl ?_
    refine q_get (pc := 116) (T := TX3) (v := .ref (gad G 1)) C (by decide) (ce_31 _ _ _) (ci := 3) rfl inlX3 (j := 1) (by decide) rfl tw_421 (Or.inr tw_422) dX3_foresee_116 ?_
    refine q_iload_n (pc := 119) C dX3_foresee_119 rfl 2 rfl ?_
    obtain ⟨r1, h1, hm⟩ := o1_some hm
    refine q_callV (pc := 120) (k := 1) (As := [.int v2]) (rest := [.int v3]) (T := TX2) C (c_Gr_fieldsOf hi h1) (by decide) (ce_1 _ _ _) (ci := 2) rfl tw_465 tw_279 tw_280 tw_13 tw_281 (nA := 1) (by decide +kernel) rfl (by decide) (Nat.le_of_ble_eq_true rfl) rfl dX3_foresee_120 ?_
    refine q_icmp_ge (pc := 123) (tgt := 145) C dX3_foresee_123 (by decide) (fun c1 => ?_) (fun c1 => ?_)
    · replace hm := hm_t c1 hm
      cases hm
      refine q_lv (lv' := [(0, .ref (gad G 31)), (1, .int v1)]) [0, 1] rfl ?_
      exact kk
    · replace hm := hm_f c1 hm
      refine q_aload_n (pc := 126) C dX3_foresee_126 rfl 0 rfl ?_
      refine q_aload_n (pc := 127) C dX3_foresee_127 rfl 0 rfl ?_
      refine q_get (pc := 128) (T := TX3) (v := .ref (gad G 1)) C (by decide) (ce_31 _ _ _) (ci := 3) rfl inlX3 (j := 1) (by decide) rfl tw_421 (Or.inr tw_422) dX3_foresee_128 ?_
      refine q_iload_n (pc := 131) C dX3_foresee_131 rfl 2 rfl ?_
      refine q_iload_n (pc := 132) C dX3_foresee_132 rfl 3 rfl ?_
      obtain ⟨r2, h2, hm⟩ := o1_some hm
      refine q_callV (pc := 133) (k := 1) (As := [.int v2, .int v3]) (rest := [.ref (gad G 31)]) (T := TX2) C (c_Gr_nameOf hi h2) (by decide) (ce_1 _ _ _) (ci := 2) rfl tw_466 tw_283 tw_284 tw_13 tw_285 (nA := 2) (by decide +kernel) rfl (by decide) (Nat.le_of_ble_eq_true rfl) rfl dX3_foresee_133 ?_
      obtain ⟨S1, h3, hm⟩ := o1_some hm
      refine q_callV (pc := 136) (k := 31) (As := [.int r2]) (rest := []) (T := TX3) C (c_Mar_foreseeIfWhite hi h3) (by decide) (ce_31 _ _ _) (ci := 3) rfl tw_820 tw_821 tw_822 tw_19 tw_823 (nA := 1) (by decide +kernel) rfl (by decide) (Nat.le_of_ble_eq_true rfl) rfl dX3_foresee_136 ?_
      refine q_iinc (pc := 139) (k := 3) (v := (v3 + (1 : Int32))) (lv' := [(3, .int (v3 + (1 : Int32))), (0, .ref (gad G 31)), (1, .int v1), (2, .int v2)]) C dX3_foresee_139 rfl rfl (by decide) rfl ?_
      refine q_goto (pc := 142) (tgt := 114) C dX3_foresee_142 (by decide) ?_
      refine q_lv (lv' := [(0, .ref (gad G 31)), (1, .int v1), (2, .int v2), (3, .int (v3 + (1 : Int32)))]) [1, 2, 3, 0] rfl ?_
      exact ih _ _ _ _ _ hm kk
set_option maxRecDepth 100000 in
theorem w_Mar_foresee_L86 {G : Gx} (hi : qinj (gad G)) {X : Cx} (C : QC G X cX3_foresee 4 RX3 3 63 none) {Q : State → Prop} : ∀ (n : Nat) (S : St) (v1 : Int32) (zS : St), m_Mar_foresee_L86 n S v1 = some zS → QW G X 4 Q 151 [] [] zS → QW G X 4 Q 86 [(0, .ref (gad G 31)), (1, .int v1)] [] S := by
  intro n
  induction n with
  | zero =>
    intro S v1 zS hm kk
    rw [m_Mar_foresee_L86] at hm
    cases hm
  | succ n ih =>
    intro S v1 zS hm kk
    rw [m_Mar_foresee_L86] at hm
    refine q_iload_n (pc := 86) C dX3_foresee_86 rfl 1 rfl ?_
    refine q_aload_n (pc := 87) C dX3_foresee_87 rfl 0 rfl ?_
    refine q_get (pc := 88) (T := TX3) (v := .ref (gad G 39)) C (by decide) (ce_31 _ _ _) (ci := 3) rfl inlX3 (j := 13) (by decide) rfl tw_75 (Or.inl rfl) dX3_foresee_88 ?_
    refine q_get (pc := 91) (T := TX5) (v := .int (S 39 2)) C (by decide) (ce_39 _ _ _) (ci := 5) rfl inlX5 (j := 2) (by decide) rfl tw_448 (Or.inl rfl) dX3_foresee_91 ?_
    refine q_icmp_ge (pc := 94) (tgt := 151) C dX3_foresee_94 (by decide) (fun c1 => ?_) (fun c1 => ?_)
    · replace hm := hm_t c1 hm
      cases hm
      refine q_lv (lv' := []) [] rfl ?_
      exact kk
    · replace hm := hm_f c1 hm
      refine q_iload_n (pc := 97) C dX3_foresee_97 rfl 1 rfl ?_
      refine q_bipush (pc := 98) (v := (80 : Int32)) C dX3_foresee_98 (by decide) ?_
      refine q_icmp_ge (pc := 100) (tgt := 151) C dX3_foresee_100 (by decide) (fun c2 => ?_) (fun c2 => ?_)
      · replace hm := hm_t c2 hm
        cases hm
        refine q_lv (lv' := []) [] rfl ?_
        exact kk
      · replace hm := hm_f c2 hm
        refine q_aload_n (pc := 103) C dX3_foresee_103 rfl 0 rfl ?_
        refine q_get (pc := 104) (T := TX3) (v := .ref (gad G 39)) C (by decide) (ce_31 _ _ _) (ci := 3) rfl inlX3 (j := 13) (by decide) rfl tw_75 (Or.inl rfl) dX3_foresee_104 ?_
        refine q_iload_n (pc := 107) C dX3_foresee_107 rfl 1 rfl ?_
        obtain ⟨r1, h1, hm⟩ := o1_some hm
        refine q_callV (pc := 108) (k := 39) (As := [.int v1]) (rest := []) (T := TX5) C (c_Row_get_39 hi h1) (by decide) (ce_39 _ _ _) (ci := 5) rfl tw_464 tw_271 tw_272 tw_43 tw_273 (nA := 1) (by decide +kernel) rfl (by decide) (Nat.le_of_ble_eq_true rfl) rfl dX3_foresee_108 ?_
        refine q_istore_n (pc := 111) (lv' := [(2, .int r1), (0, .ref (gad G 31)), (1, .int v1)]) C dX3_foresee_111 rfl (by decide) rfl ?_
        refine q_iconst (pc := 112) (v := (0 : Int32)) C dX3_foresee_112 (by decide) ?_
        refine q_istore_n (pc := 113) (lv' := [(3, .int (0 : Int32)), (2, .int r1), (0, .ref (gad G 31)), (1, .int v1)]) C dX3_foresee_113 rfl (by decide) rfl ?_
        refine q_lv (lv' := [(0, .ref (gad G 31)), (1, .int v1), (2, .int r1), (3, .int (0 : Int32))]) [2, 3, 1, 0] rfl ?_
        obtain ⟨S1, h2, hm⟩ := o1_some hm
        refine w_Mar_foresee_L114 hi C 200 _ _ _ _ _ h2 ?_
        refine q_iinc (pc := 145) (k := 1) (v := (v1 + (1 : Int32))) (lv' := [(1, .int (v1 + (1 : Int32))), (0, .ref (gad G 31))]) C dX3_foresee_145 rfl rfl (by decide) rfl ?_
        refine q_goto (pc := 148) (tgt := 86) C dX3_foresee_148 (by decide) ?_
        refine q_lv (lv' := [(0, .ref (gad G 31)), (1, .int (v1 + (1 : Int32)))]) [1, 0] rfl ?_
        exact ih _ _ _ hm kk
set_option maxRecDepth 100000 in
theorem c_Mar_foresee {G : Gx} (hi : qinj (gad G)) {S : St}  {zS : St} (hm : m_Mar_foresee S  = some zS) : QMet G yX3_foresee cX3_foresee 4 none 3 63 [.ref (gad G 31)] S none zS := by
  refine q_entry (by decide +kernel) rfl hi (Nat.le_of_ble_eq_true rfl) ?_
  intro X C
  refine q_lv (lv' := [(0, .ref (gad G 31))]) [0] rfl ?_
  unfold m_Mar_foresee at hm
  refine q_aload_n (pc := 0) C dX3_foresee_0 rfl 0 rfl ?_
  refine q_get (pc := 1) (T := TX3) (v := .ref (gad G 39)) C (by decide) (ce_31 _ _ _) (ci := 3) rfl inlX3 (j := 13) (by decide) rfl tw_75 (Or.inl rfl) dX3_foresee_1 ?_
  obtain ⟨S1, h1, hm⟩ := o1_some hm
  refine q_callV (pc := 4) (k := 39) (As := []) (rest := []) (T := TX5) C (c_Row_empty_39 hi h1) (by decide) (ce_39 _ _ _) (ci := 5) rfl tw_161 tw_124 tw_125 tw_43 tw_126 (nA := 0) (by decide +kernel) rfl (by decide) (Nat.le_of_ble_eq_true rfl) rfl dX3_foresee_4 ?_
  refine q_aload_n (pc := 7) C dX3_foresee_7 rfl 0 rfl ?_
  refine q_get (pc := 8) (T := TX3) (v := .int (S1 31 14)) C (by decide) (ce_31 _ _ _) (ci := 3) rfl inlX3 (j := 14) (by decide) rfl tw_160 (Or.inl rfl) dX3_foresee_8 ?_
  refine q_istore_n (pc := 11) (lv' := [(1, .int (S1 31 14)), (0, .ref (gad G 31))]) C dX3_foresee_11 rfl (by decide) rfl ?_
  refine q_lv (lv' := [(0, .ref (gad G 31)), (1, .int (S1 31 14))]) [1, 0] rfl ?_
  obtain ⟨S2, h2, hm⟩ := o1_some hm
  refine w_Mar_foresee_L12 hi C 200 _ _ _ h2 ?_
  refine q_iconst (pc := 51) (v := (0 : Int32)) C dX3_foresee_51 (by decide) ?_
  refine q_istore_n (pc := 52) (lv' := [(1, .int (0 : Int32)), (0, .ref (gad G 31))]) C dX3_foresee_52 rfl (by decide) rfl ?_
  refine q_lv (lv' := [(0, .ref (gad G 31)), (1, .int (0 : Int32))]) [1, 0] rfl ?_
  obtain ⟨S3, h3, hm⟩ := o1_some hm
  refine w_Mar_foresee_L53 hi C 200 _ _ _ h3 ?_
  refine q_iconst (pc := 84) (v := (0 : Int32)) C dX3_foresee_84 (by decide) ?_
  refine q_istore_n (pc := 85) (lv' := [(1, .int (0 : Int32)), (0, .ref (gad G 31))]) C dX3_foresee_85 rfl (by decide) rfl ?_
  refine q_lv (lv' := [(0, .ref (gad G 31)), (1, .int (0 : Int32))]) [1, 0] rfl ?_
  obtain ⟨S4, h4, hm⟩ := o1_some hm
  refine w_Mar_foresee_L86 hi C 200 _ _ _ h4 ?_
  cases hm
  exact q_vret (pc := 151) C dX3_foresee_151
set_option maxRecDepth 100000 in
theorem c_Row_holds_39 {G : Gx} (hi : qinj (gad G)) {S : St} {a1 : Int32} {zr : Int32} (hm : m_Row_holds 39 S a1 = some zr) : QMet G yX5_holds cX5_holds 2 (some .boolean) 0 0 [.ref (gad G 39), .int a1] S (some (.int zr)) S := by
  refine q_entry (by decide +kernel) rfl hi (Nat.le_of_ble_eq_true rfl) ?_
  intro X C
  refine q_lv (lv' := [(0, .ref (gad G 39)), (1, .int a1)]) [0, 1] rfl ?_
  unfold m_Row_holds at hm
  refine q_iload_n (pc := 0) C dX5_holds_0 rfl 1 rfl ?_
  refine q_if_lt (pc := 1) (tgt := 23) C dX5_holds_1 (by decide) (fun c1 => ?_) (fun c1 => ?_)
  · replace hm := hm_t c1 hm
    refine q_iconst (pc := 23) (v := (0 : Int32)) C dX5_holds_23 (by decide) ?_
    cases hm
    exact q_zret (pc := 24) C (by decide) dX5_holds_24
  · replace hm := hm_f c1 hm
    refine q_iload_n (pc := 4) C dX5_holds_4 rfl 1 rfl ?_
    refine q_bipush (pc := 5) (v := (80 : Int32)) C dX5_holds_5 (by decide) ?_
    refine q_icmp_ge (pc := 7) (tgt := 23) C dX5_holds_7 (by decide) (fun c2 => ?_) (fun c2 => ?_)
    · replace hm := hm_t c2 hm
      refine q_iconst (pc := 23) (v := (0 : Int32)) C dX5_holds_23 (by decide) ?_
      cases hm
      exact q_zret (pc := 24) C (by decide) dX5_holds_24
    · replace hm := hm_f c2 hm
      refine q_aload_n (pc := 10) C dX5_holds_10 rfl 0 rfl ?_
      refine q_get (pc := 11) (T := TX5) (v := .ref (gad G 41)) C (by decide) (ce_39 _ _ _) (ci := 5) rfl inlX5 (j := 1) (by decide) rfl tw_50 (Or.inl rfl) dX5_holds_11 ?_
      refine q_iload_n (pc := 14) C dX5_holds_14 rfl 1 rfl ?_
      obtain ⟨b1, hm⟩ := oi_some hm
      refine q_zald (pc := 15) C (by decide) (ce_41 _ _ _) (ty_41 _) b1 dX5_holds_15 ?_
      refine q_if_eq (pc := 16) (tgt := 23) C dX5_holds_16 (by decide) (fun c3 => ?_) (fun c3 => ?_)
      · replace hm := hm_t c3 hm
        refine q_iconst (pc := 23) (v := (0 : Int32)) C dX5_holds_23 (by decide) ?_
        cases hm
        exact q_zret (pc := 24) C (by decide) dX5_holds_24
      · replace hm := hm_f c3 hm
        refine q_iconst (pc := 19) (v := (1 : Int32)) C dX5_holds_19 (by decide) ?_
        refine q_goto (pc := 20) (tgt := 24) C dX5_holds_20 (by decide) ?_
        cases hm
        exact q_zret (pc := 24) C (by decide) dX5_holds_24
set_option maxRecDepth 100000 in
theorem w_Mar_countToGo_L8 {G : Gx} (hi : qinj (gad G)) {X : Cx} (C : QC G X cX3_countToGo 3 RX3 4 86 (some .int)) {Q : State → Prop} : ∀ (n : Nat) (S : St) (v1 : Int32) (v2 : Int32) (x1 : Int32), m_Mar_countToGo_L8 n S v1 v2 = some x1 → QW G X 3 Q 52 [(1, .int x1)] [] S → QW G X 3 Q 8 [(0, .ref (gad G 31)), (1, .int v1), (2, .int v2)] [] S := by
  intro n
  induction n with
  | zero =>
    intro S v1 v2 x1 hm kk
    rw [m_Mar_countToGo_L8] at hm
    cases hm
  | succ n ih =>
    intro S v1 v2 x1 hm kk
    rw [m_Mar_countToGo_L8] at hm
    refine q_iload_n (pc := 8) C dX3_countToGo_8 rfl 2 rfl ?_
    refine q_aload_n (pc := 9) C dX3_countToGo_9 rfl 0 rfl ?_
    refine q_get (pc := 10) (T := TX3) (v := .ref (gad G 1)) C (by decide) (ce_31 _ _ _) (ci := 3) rfl inlX3 (j := 1) (by decide) rfl tw_421 (Or.inr tw_422) dX3_countToGo_10 ?_
    refine q_get (pc := 13) (T := TX2) (v := .int (S 1 6)) C (by decide) (ce_1 _ _ _) (ci := 2) rfl inlX2 (j := 6) (by decide) rfl tw_455 (Or.inl rfl) dX3_countToGo_13 ?_
    refine q_icmp_ge (pc := 16) (tgt := 52) C dX3_countToGo_16 (by decide) (fun c1 => ?_) (fun c1 => ?_)
    · replace hm := hm_t c1 hm
      cases hm
      refine q_lv (lv' := [(1, .int v1)]) [1] rfl ?_
      exact kk
    · replace hm := hm_f c1 hm
      refine q_iload_n (pc := 19) C dX3_countToGo_19 rfl 1 rfl ?_
      refine q_aload_n (pc := 20) C dX3_countToGo_20 rfl 0 rfl ?_
      refine q_iload_n (pc := 21) C dX3_countToGo_21 rfl 2 rfl ?_
      obtain ⟨r1, h1, hm⟩ := o1_some hm
      refine q_callV (pc := 22) (k := 31) (As := [.int v2]) (rest := [.int v1]) (T := TX3) C (c_Mar_colourOf hi h1) (by decide) (ce_31 _ _ _) (ci := 3) rfl tw_431 tw_432 tw_433 tw_19 tw_434 (nA := 1) (by decide +kernel) rfl (by decide) (Nat.le_of_ble_eq_true rfl) rfl dX3_countToGo_22 ?_
      refine q_if_ne (pc := 25) (tgt := 43) C dX3_countToGo_25 (by decide) (fun c2 => ?_) (fun c2 => ?_)
      · replace hm := hm_f c2 hm
        refine q_iconst (pc := 43) (v := (0 : Int32)) C dX3_countToGo_43 (by decide) ?_
        refine q_iadd (pc := 44) C dX3_countToGo_44 ?_
        refine q_istore_n (pc := 45) (lv' := [(1, .int (v1 + (0 : Int32))), (0, .ref (gad G 31)), (2, .int v2)]) C dX3_countToGo_45 rfl (by decide) rfl ?_
        refine q_iinc (pc := 46) (k := 2) (v := (v2 + (1 : Int32))) (lv' := [(2, .int (v2 + (1 : Int32))), (1, .int (v1 + (0 : Int32))), (0, .ref (gad G 31))]) C dX3_countToGo_46 rfl rfl (by decide) rfl ?_
        refine q_goto (pc := 49) (tgt := 8) C dX3_countToGo_49 (by decide) ?_
        refine q_lv (lv' := [(0, .ref (gad G 31)), (1, .int (v1 + (0 : Int32))), (2, .int (v2 + (1 : Int32)))]) [2, 1, 0] rfl ?_
        exact ih _ _ _ _ hm kk
      · replace hm := hm_t c2 hm
        refine q_aload_n (pc := 28) C dX3_countToGo_28 rfl 0 rfl ?_
        refine q_get (pc := 29) (T := TX3) (v := .ref (gad G 39)) C (by decide) (ce_31 _ _ _) (ci := 3) rfl inlX3 (j := 13) (by decide) rfl tw_75 (Or.inl rfl) dX3_countToGo_29 ?_
        refine q_iload_n (pc := 32) C dX3_countToGo_32 rfl 2 rfl ?_
        obtain ⟨r2, h2, hm⟩ := o1_some hm
        refine q_callV (pc := 33) (k := 39) (As := [.int v2]) (rest := [.int v1]) (T := TX5) C (c_Row_holds_39 hi h2) (by decide) (ce_39 _ _ _) (ci := 5) rfl tw_824 tw_384 tw_385 tw_43 tw_386 (nA := 1) (by decide +kernel) rfl (by decide) (Nat.le_of_ble_eq_true rfl) rfl dX3_countToGo_33 ?_
        refine q_if_ne (pc := 36) (tgt := 43) C dX3_countToGo_36 (by decide) (fun c3 => ?_) (fun c3 => ?_)
        · replace hm := hm_f c3 hm
          refine q_iconst (pc := 43) (v := (0 : Int32)) C dX3_countToGo_43 (by decide) ?_
          refine q_iadd (pc := 44) C dX3_countToGo_44 ?_
          refine q_istore_n (pc := 45) (lv' := [(1, .int (v1 + (0 : Int32))), (0, .ref (gad G 31)), (2, .int v2)]) C dX3_countToGo_45 rfl (by decide) rfl ?_
          refine q_iinc (pc := 46) (k := 2) (v := (v2 + (1 : Int32))) (lv' := [(2, .int (v2 + (1 : Int32))), (1, .int (v1 + (0 : Int32))), (0, .ref (gad G 31))]) C dX3_countToGo_46 rfl rfl (by decide) rfl ?_
          refine q_goto (pc := 49) (tgt := 8) C dX3_countToGo_49 (by decide) ?_
          refine q_lv (lv' := [(0, .ref (gad G 31)), (1, .int (v1 + (0 : Int32))), (2, .int (v2 + (1 : Int32)))]) [2, 1, 0] rfl ?_
          exact ih _ _ _ _ hm kk
        · replace hm := hm_t c3 hm
          refine q_iconst (pc := 39) (v := (1 : Int32)) C dX3_countToGo_39 (by decide) ?_
          refine q_goto (pc := 40) (tgt := 44) C dX3_countToGo_40 (by decide) ?_
          refine q_iadd (pc := 44) C dX3_countToGo_44 ?_
          refine q_istore_n (pc := 45) (lv' := [(1, .int (v1 + (1 : Int32))), (0, .ref (gad G 31)), (2, .int v2)]) C dX3_countToGo_45 rfl (by decide) rfl ?_
          refine q_iinc (pc := 46) (k := 2) (v := (v2 + (1 : Int32))) (lv' := [(2, .int (v2 + (1 : Int32))), (1, .int (v1 + (1 : Int32))), (0, .ref (gad G 31))]) C dX3_countToGo_46 rfl rfl (by decide) rfl ?_
          refine q_goto (pc := 49) (tgt := 8) C dX3_countToGo_49 (by decide) ?_
          refine q_lv (lv' := [(0, .ref (gad G 31)), (1, .int (v1 + (1 : Int32))), (2, .int (v2 + (1 : Int32)))]) [2, 1, 0] rfl ?_
          exact ih _ _ _ _ hm kk
set_option maxRecDepth 100000 in
theorem c_Mar_countToGo {G : Gx} (hi : qinj (gad G)) {S : St}  {zr : Int32} {zS : St} (hm : m_Mar_countToGo S  = some (zr, zS)) : QMet G yX3_countToGo cX3_countToGo 3 (some .int) 4 86 [.ref (gad G 31)] S (some (.int zr)) zS := by
  refine q_entry (by decide +kernel) rfl hi (Nat.le_of_ble_eq_true rfl) ?_
  intro X C
  refine q_lv (lv' := [(0, .ref (gad G 31))]) [0] rfl ?_
  unfold m_Mar_countToGo at hm
  refine q_aload_n (pc := 0) C dX3_countToGo_0 rfl 0 rfl ?_
  obtain ⟨S1, h1, hm⟩ := o1_some hm
  refine q_callV (pc := 1) (k := 31) (As := []) (rest := []) (T := TX3) C (c_Mar_foresee hi h1) (by decide) (ce_31 _ _ _) (ci := 3) rfl tw_816 tw_817 tw_818 tw_19 tw_819 (nA := 0) (by decide +kernel) rfl (by decide) (Nat.le_of_ble_eq_true rfl) rfl dX3_countToGo_1 ?_
  refine q_iconst (pc := 4) (v := (0 : Int32)) C dX3_countToGo_4 (by decide) ?_
  refine q_istore_n (pc := 5) (lv' := [(1, .int (0 : Int32)), (0, .ref (gad G 31))]) C dX3_countToGo_5 rfl (by decide) rfl ?_
  refine q_iconst (pc := 6) (v := (0 : Int32)) C dX3_countToGo_6 (by decide) ?_
  refine q_istore_n (pc := 7) (lv' := [(2, .int (0 : Int32)), (1, .int (0 : Int32)), (0, .ref (gad G 31))]) C dX3_countToGo_7 rfl (by decide) rfl ?_
  refine q_lv (lv' := [(0, .ref (gad G 31)), (1, .int (0 : Int32)), (2, .int (0 : Int32))]) [2, 1, 0] rfl ?_
  obtain ⟨y1, h2, hm⟩ := o1_some hm
  refine w_Mar_countToGo_L8 hi C 200 _ _ _ _ h2 ?_
  refine q_iload_n (pc := 52) C dX3_countToGo_52 rfl 0 rfl ?_
  cases hm
  exact q_iret (pc := 53) C dX3_countToGo_53
set_option maxRecDepth 100000 in
theorem c_Cou_countToGo {G : Gx} (hi : qinj (gad G)) {S : St}  {zr : Int32} {zS : St} (hm : m_Cou_countToGo S  = some (zr, zS)) : QMet G yX1_countToGo cX1_countToGo 1 (some .int) 4 88 [.ref (gad G 42)] S (some (.int zr)) zS := by
  refine q_entry (by decide +kernel) rfl hi (Nat.le_of_ble_eq_true rfl) ?_
  intro X C
  refine q_lv (lv' := [(0, .ref (gad G 42))]) [0] rfl ?_
  unfold m_Cou_countToGo at hm
  refine q_aload_n (pc := 0) C dX1_countToGo_0 rfl 0 rfl ?_
  obtain ⟨S1, h1, hm⟩ := o1_some hm
  refine q_callV (pc := 1) (k := 42) (As := []) (rest := []) (T := TX1) C (c_Cou_findRings hi h1) (by decide) (ce_42 _ _ _) (ci := 1) rfl tw_355 tw_356 tw_357 tw_22 tw_358 (nA := 0) (by decide +kernel) rfl (by decide) (Nat.le_of_ble_eq_true rfl) rfl dX1_countToGo_1 ?_
  refine q_aload_n (pc := 4) C dX1_countToGo_4 rfl 0 rfl ?_
  refine q_get (pc := 5) (T := TX1) (v := .ref (gad G 52)) C (by decide) (ce_42 _ _ _) (ci := 1) rfl inlX1 (j := 15) (by decide) rfl tw_90 (Or.inl rfl) dX1_countToGo_5 ?_
  refine q_get (pc := 8) (T := TX5) (v := .int (S1 52 2)) C (by decide) (ce_52 _ _ _) (ci := 5) rfl inlX5 (j := 2) (by decide) rfl tw_352 (Or.inl rfl) dX1_countToGo_8 ?_
  refine q_aload_n (pc := 11) C dX1_countToGo_11 rfl 0 rfl ?_
  refine q_get (pc := 12) (T := TX1) (v := .ref (gad G 55)) C (by decide) (ce_42 _ _ _) (ci := 1) rfl inlX1 (j := 16) (by decide) rfl tw_91 (Or.inl rfl) dX1_countToGo_12 ?_
  refine q_get (pc := 15) (T := TX5) (v := .int (S1 55 2)) C (by decide) (ce_55 _ _ _) (ci := 5) rfl inlX5 (j := 2) (by decide) rfl tw_352 (Or.inl rfl) dX1_countToGo_15 ?_
  refine q_isub (pc := 18) C dX1_countToGo_18 ?_
  cases hm
  exact q_iret (pc := 19) C dX1_countToGo_19
set_option maxRecDepth 100000 in
theorem c_Te_wouldGo {G : Gx} (hi : qinj (gad G)) {S : St} {a1 : Int32} {zr : Int32} {zS : St} (hm : m_Te_wouldGo S a1 = some (zr, zS)) : QMet G yX8_wouldGo cX8_wouldGo 3 (some .int) 5 108 [.ref (gad G 0), .int a1] S (some (.int zr)) zS := by
  refine q_entry (by decide +kernel) rfl hi (Nat.le_of_ble_eq_true rfl) ?_
  intro X C
  refine q_lv (lv' := [(0, .ref (gad G 0)), (1, .int a1)]) [0, 1] rfl ?_
  unfold m_Te_wouldGo at hm
  refine q_aload_n (pc := 0) C dX8_wouldGo_0 rfl 0 rfl ?_
  refine q_iload_n (pc := 1) C dX8_wouldGo_1 rfl 1 rfl ?_
  obtain ⟨k1, h1, hm⟩ := o1_some hm
  refine q_callV (pc := 2) (k := 0) (As := [.int a1]) (rest := []) (T := TX8) C (c_Te_storeOf hi h1) (by decide) (ce_0 _ _ _) (ci := 6) rfl tw_716 tw_717 tw_718 tw_2 tw_719 (nA := 1) (by decide +kernel) rfl (by decide) (Nat.le_of_ble_eq_true rfl) rfl dX8_wouldGo_2 ?_
  by_cases c5 : k1 = 12
  · replace hm := hm_t c5 hm
    subst c5
    refine q_astore_n (pc := 5) (lv' := [(2, .ref (gad G 12)), (0, .ref (gad G 0)), (1, .int a1)]) C dX8_wouldGo_5 rfl (by decide) rfl ?_
    refine q_aload_n (pc := 6) C dX8_wouldGo_6 rfl 0 rfl ?_
    refine q_get (pc := 7) (T := TX0) (v := .int (S 12 5)) C (by decide) (ce_12 _ _ _) (ci := 0) rfl inlX0 (j := 5) (by decide) rfl tw_199 (Or.inl rfl) dX8_wouldGo_7 ?_
    refine q_if_eq (pc := 10) (tgt := 17) C dX8_wouldGo_10 (by decide) (fun c1 => ?_) (fun c1 => ?_)
    · replace hm := hm_t c1 hm
      refine q_aload_n (pc := 17) C dX8_wouldGo_17 rfl 0 rfl ?_
      obtain ⟨r1, h2, hm⟩ := o1_some hm
      refine q_callU (pc := 18) (k := 12) (As := []) (rest := []) (T := TX0) (owner := "Tessera$Store") (x := ⟨"Tessera$Store", "countToGo", "()I"⟩) C (c_Cop_countToGo hi h2) (by decide) (ce_12 _ _ _) (ci := 0) rfl (Or.inr (Or.inl (by decide))) tw_802 tw_803 tw_805 tw_804 tw_26 tw_806 (nA := 0) (by decide +kernel) rfl (by decide) (Nat.le_of_ble_eq_true rfl) rfl dX8_wouldGo_18 ?_
      cases hm
      exact q_iret (pc := 21) C dX8_wouldGo_21
    · replace hm := hm_f c1 hm
      refine q_iconst (pc := 13) (v := (0 : Int32)) C dX8_wouldGo_13 (by decide) ?_
      refine q_goto (pc := 14) (tgt := 21) C dX8_wouldGo_14 (by decide) ?_
      cases hm
      exact q_iret (pc := 21) C dX8_wouldGo_21
  replace hm := hm_f c5 hm
  by_cases c6 : k1 = 18
  · replace hm := hm_t c6 hm
    subst c6
    refine q_astore_n (pc := 5) (lv' := [(2, .ref (gad G 18)), (0, .ref (gad G 0)), (1, .int a1)]) C dX8_wouldGo_5 rfl (by decide) rfl ?_
    refine q_aload_n (pc := 6) C dX8_wouldGo_6 rfl 0 rfl ?_
    refine q_get (pc := 7) (T := TX4) (v := .int (S 18 5)) C (by decide) (ce_18 _ _ _) (ci := 4) rfl inlX4 (j := 5) (by decide) rfl tw_199 (Or.inl rfl) dX8_wouldGo_7 ?_
    refine q_if_eq (pc := 10) (tgt := 17) C dX8_wouldGo_10 (by decide) (fun c2 => ?_) (fun c2 => ?_)
    · replace hm := hm_t c2 hm
      refine q_aload_n (pc := 17) C dX8_wouldGo_17 rfl 0 rfl ?_
      obtain ⟨r2, h3, hm⟩ := o1_some hm
      refine q_callU (pc := 18) (k := 18) (As := []) (rest := []) (T := TX4) (owner := "Tessera$Store") (x := ⟨"Tessera$Store", "countToGo", "()I"⟩) C (c_Nur_countToGo hi h3) (by decide) (ce_18 _ _ _) (ci := 4) rfl (Or.inr (Or.inl (by decide))) tw_802 tw_803 tw_826 tw_825 tw_16 tw_827 (nA := 0) (by decide +kernel) rfl (by decide) (Nat.le_of_ble_eq_true rfl) rfl dX8_wouldGo_18 ?_
      cases hm
      exact q_iret (pc := 21) C dX8_wouldGo_21
    · replace hm := hm_f c2 hm
      refine q_iconst (pc := 13) (v := (0 : Int32)) C dX8_wouldGo_13 (by decide) ?_
      refine q_goto (pc := 14) (tgt := 21) C dX8_wouldGo_14 (by decide) ?_
      cases hm
      exact q_iret (pc := 21) C dX8_wouldGo_21
  replace hm := hm_f c6 hm
  by_cases c7 : k1 = 31
  · replace hm := hm_t c7 hm
    subst c7
    refine q_astore_n (pc := 5) (lv' := [(2, .ref (gad G 31)), (0, .ref (gad G 0)), (1, .int a1)]) C dX8_wouldGo_5 rfl (by decide) rfl ?_
    refine q_aload_n (pc := 6) C dX8_wouldGo_6 rfl 0 rfl ?_
    refine q_get (pc := 7) (T := TX3) (v := .int (S 31 6)) C (by decide) (ce_31 _ _ _) (ci := 3) rfl inlX3 (j := 6) (by decide) rfl tw_199 (Or.inl rfl) dX8_wouldGo_7 ?_
    refine q_if_eq (pc := 10) (tgt := 17) C dX8_wouldGo_10 (by decide) (fun c3 => ?_) (fun c3 => ?_)
    · replace hm := hm_t c3 hm
      refine q_aload_n (pc := 17) C dX8_wouldGo_17 rfl 0 rfl ?_
      obtain ⟨r3, S1, h4, hm⟩ := ob_some hm
      refine q_callU (pc := 18) (k := 31) (As := []) (rest := []) (T := TX3) (owner := "Tessera$Store") (x := ⟨"Tessera$Store", "countToGo", "()I"⟩) C (c_Mar_countToGo hi h4) (by decide) (ce_31 _ _ _) (ci := 3) rfl (Or.inr (Or.inl (by decide))) tw_802 tw_803 tw_814 tw_813 tw_19 tw_815 (nA := 0) (by decide +kernel) rfl (by decide) (Nat.le_of_ble_eq_true rfl) rfl dX8_wouldGo_18 ?_
      cases hm
      exact q_iret (pc := 21) C dX8_wouldGo_21
    · replace hm := hm_f c3 hm
      refine q_iconst (pc := 13) (v := (0 : Int32)) C dX8_wouldGo_13 (by decide) ?_
      refine q_goto (pc := 14) (tgt := 21) C dX8_wouldGo_14 (by decide) ?_
      cases hm
      exact q_iret (pc := 21) C dX8_wouldGo_21
  replace hm := hm_f c7 hm
  by_cases c8 : k1 = 42
  · replace hm := hm_t c8 hm
    subst c8
    refine q_astore_n (pc := 5) (lv' := [(2, .ref (gad G 42)), (0, .ref (gad G 0)), (1, .int a1)]) C dX8_wouldGo_5 rfl (by decide) rfl ?_
    refine q_aload_n (pc := 6) C dX8_wouldGo_6 rfl 0 rfl ?_
    refine q_get (pc := 7) (T := TX1) (v := .int (S 42 6)) C (by decide) (ce_42 _ _ _) (ci := 1) rfl inlX1 (j := 6) (by decide) rfl tw_199 (Or.inl rfl) dX8_wouldGo_7 ?_
    refine q_if_eq (pc := 10) (tgt := 17) C dX8_wouldGo_10 (by decide) (fun c4 => ?_) (fun c4 => ?_)
    · replace hm := hm_t c4 hm
      refine q_aload_n (pc := 17) C dX8_wouldGo_17 rfl 0 rfl ?_
      obtain ⟨r4, S2, h5, hm⟩ := ob_some hm
      refine q_callU (pc := 18) (k := 42) (As := []) (rest := []) (T := TX1) (owner := "Tessera$Store") (x := ⟨"Tessera$Store", "countToGo", "()I"⟩) C (c_Cou_countToGo hi h5) (by decide) (ce_42 _ _ _) (ci := 1) rfl (Or.inr (Or.inl (by decide))) tw_802 tw_803 tw_811 tw_810 tw_22 tw_812 (nA := 0) (by decide +kernel) rfl (by decide) (Nat.le_of_ble_eq_true rfl) rfl dX8_wouldGo_18 ?_
      cases hm
      exact q_iret (pc := 21) C dX8_wouldGo_21
    · replace hm := hm_f c4 hm
      refine q_iconst (pc := 13) (v := (0 : Int32)) C dX8_wouldGo_13 (by decide) ?_
      refine q_goto (pc := 14) (tgt := 21) C dX8_wouldGo_14 (by decide) ?_
      cases hm
      exact q_iret (pc := 21) C dX8_wouldGo_21
  replace hm := hm_f c8 hm
  cases hm
set_option maxRecDepth 100000 in
theorem w_St_wordsReached_12_L4 {G : Gx} (hi : qinj (gad G)) {X : Cx} (C : QC G X cX7_wordsReached 3 RX7 1 21 (some .int)) {Q : State → Prop} : ∀ (n : Nat) (S : St) (v1 : Int32) (v2 : Int32) (x1 : Int32), m_St_wordsReached_L4 12 0 n S v1 v2 = some x1 → QW G X 3 Q 55 [(1, .int x1)] [] S → QW G X 3 Q 4 [(0, .ref (gad G 12)), (1, .int v1), (2, .int v2)] [] S := by
  intro n
  induction n with
  | zero =>
    intro S v1 v2 x1 hm kk
    rw [m_St_wordsReached_L4] at hm
    cases hm
  | succ n ih =>
    intro S v1 v2 x1 hm kk
    rw [m_St_wordsReached_L4] at hm
    refine q_iload_n (pc := 4) C dX7_wordsReached_4 rfl 2 rfl ?_
    refine q_aload_n (pc := 5) C dX7_wordsReached_5 rfl 0 rfl ?_
    refine q_get (pc := 6) (T := TX0) (v := .ref (gad G 1)) C (by decide) (ce_12 _ _ _) (ci := 0) rfl inlX0 (j := 0) (by decide) rfl tw_67 (Or.inl rfl) dX7_wordsReached_6 ?_
    refine q_get (pc := 9) (T := TX2) (v := .int (S 1 6)) C (by decide) (ce_1 _ _ _) (ci := 2) rfl inlX2 (j := 6) (by decide) rfl tw_252 (Or.inl rfl) dX7_wordsReached_9 ?_
    refine q_icmp_ge (pc := 12) (tgt := 55) C dX7_wordsReached_12 (by decide) (fun c1 => ?_) (fun c1 => ?_)
    · replace hm := hm_t c1 hm
      cases hm
      refine q_lv (lv' := [(1, .int v1)]) [1] rfl ?_
      exact kk
    · replace hm := hm_f c1 hm
      refine q_iload_n (pc := 15) C dX7_wordsReached_15 rfl 1 rfl ?_
      refine q_aload_n (pc := 16) C dX7_wordsReached_16 rfl 0 rfl ?_
      refine q_iload_n (pc := 17) C dX7_wordsReached_17 rfl 2 rfl ?_
      obtain ⟨r1, h1, hm⟩ := o1_some hm
      refine q_callU (pc := 18) (k := 12) (As := [.int v2]) (rest := [.int v1]) (T := TX0) (owner := "Tessera$Store") (x := ⟨"Tessera$Store", "has", "(I)Z"⟩) C (c_St_has_12 hi h1) (by decide) (ce_12 _ _ _) (ci := 0) rfl (Or.inl rfl) tw_253 tw_254 tw_256 tw_255 tw_62 tw_257 (nA := 1) (by decide +kernel) rfl (by decide) (Nat.le_of_ble_eq_true rfl) rfl dX7_wordsReached_18 ?_
      refine q_if_eq (pc := 21) (tgt := 46) C dX7_wordsReached_21 (by decide) (fun c2 => ?_) (fun c2 => ?_)
      · replace hm := hm_t c2 hm
        refine q_iconst (pc := 46) (v := (0 : Int32)) C dX7_wordsReached_46 (by decide) ?_
        refine q_iadd (pc := 47) C dX7_wordsReached_47 ?_
        refine q_istore_n (pc := 48) (lv' := [(1, .int (v1 + (0 : Int32))), (0, .ref (gad G 12)), (2, .int v2)]) C dX7_wordsReached_48 rfl (by decide) rfl ?_
        refine q_iinc (pc := 49) (k := 2) (v := (v2 + (1 : Int32))) (lv' := [(2, .int (v2 + (1 : Int32))), (1, .int (v1 + (0 : Int32))), (0, .ref (gad G 12))]) C dX7_wordsReached_49 rfl rfl (by decide) rfl ?_
        refine q_goto (pc := 52) (tgt := 4) C dX7_wordsReached_52 (by decide) ?_
        refine q_lv (lv' := [(0, .ref (gad G 12)), (1, .int (v1 + (0 : Int32))), (2, .int (v2 + (1 : Int32)))]) [2, 1, 0] rfl ?_
        exact ih _ _ _ _ hm kk
      · replace hm := hm_f c2 hm
        refine q_aload_n (pc := 24) C dX7_wordsReached_24 rfl 0 rfl ?_
        refine q_get (pc := 25) (T := TX0) (v := .ref (gad G 1)) C (by decide) (ce_12 _ _ _) (ci := 0) rfl inlX0 (j := 0) (by decide) rfl tw_67 (Or.inl rfl) dX7_wordsReached_25 ?_
        refine q_iload_n (pc := 28) C dX7_wordsReached_28 rfl 2 rfl ?_
        obtain ⟨r2, h2, hm⟩ := o1_some hm
        refine q_callV (pc := 29) (k := 1) (As := [.int v2]) (rest := [.int v1]) (T := TX2) C (c_Gr_isReached hi h2) (by decide) (ce_1 _ _ _) (ci := 2) rfl tw_525 tw_526 tw_527 tw_13 tw_528 (nA := 1) (by decide +kernel) rfl (by decide) (Nat.le_of_ble_eq_true rfl) rfl dX7_wordsReached_29 ?_
        refine q_if_eq (pc := 32) (tgt := 46) C dX7_wordsReached_32 (by decide) (fun c3 => ?_) (fun c3 => ?_)
        · replace hm := hm_t c3 hm
          refine q_iconst (pc := 46) (v := (0 : Int32)) C dX7_wordsReached_46 (by decide) ?_
          refine q_iadd (pc := 47) C dX7_wordsReached_47 ?_
          refine q_istore_n (pc := 48) (lv' := [(1, .int (v1 + (0 : Int32))), (0, .ref (gad G 12)), (2, .int v2)]) C dX7_wordsReached_48 rfl (by decide) rfl ?_
          refine q_iinc (pc := 49) (k := 2) (v := (v2 + (1 : Int32))) (lv' := [(2, .int (v2 + (1 : Int32))), (1, .int (v1 + (0 : Int32))), (0, .ref (gad G 12))]) C dX7_wordsReached_49 rfl rfl (by decide) rfl ?_
          refine q_goto (pc := 52) (tgt := 4) C dX7_wordsReached_52 (by decide) ?_
          refine q_lv (lv' := [(0, .ref (gad G 12)), (1, .int (v1 + (0 : Int32))), (2, .int (v2 + (1 : Int32)))]) [2, 1, 0] rfl ?_
          exact ih _ _ _ _ hm kk
        · replace hm := hm_f c3 hm
          refine q_aload_n (pc := 35) C dX7_wordsReached_35 rfl 0 rfl ?_
          refine q_get (pc := 36) (T := TX0) (v := .ref (gad G 1)) C (by decide) (ce_12 _ _ _) (ci := 0) rfl inlX0 (j := 0) (by decide) rfl tw_67 (Or.inl rfl) dX7_wordsReached_36 ?_
          refine q_iload_n (pc := 39) C dX7_wordsReached_39 rfl 2 rfl ?_
          obtain ⟨r3, h3, hm⟩ := o1_some hm
          refine q_callV (pc := 40) (k := 1) (As := [.int v2]) (rest := [.int v1]) (T := TX2) C (c_Gr_wordsOf hi h3) (by decide) (ce_1 _ _ _) (ci := 2) rfl tw_416 tw_229 tw_230 tw_13 tw_231 (nA := 1) (by decide +kernel) rfl (by decide) (Nat.le_of_ble_eq_true rfl) rfl dX7_wordsReached_40 ?_
          refine q_goto (pc := 43) (tgt := 47) C dX7_wordsReached_43 (by decide) ?_
          refine q_iadd (pc := 47) C dX7_wordsReached_47 ?_
          refine q_istore_n (pc := 48) (lv' := [(1, .int (v1 + r3)), (0, .ref (gad G 12)), (2, .int v2)]) C dX7_wordsReached_48 rfl (by decide) rfl ?_
          refine q_iinc (pc := 49) (k := 2) (v := (v2 + (1 : Int32))) (lv' := [(2, .int (v2 + (1 : Int32))), (1, .int (v1 + r3)), (0, .ref (gad G 12))]) C dX7_wordsReached_49 rfl rfl (by decide) rfl ?_
          refine q_goto (pc := 52) (tgt := 4) C dX7_wordsReached_52 (by decide) ?_
          refine q_lv (lv' := [(0, .ref (gad G 12)), (1, .int (v1 + r3)), (2, .int (v2 + (1 : Int32)))]) [2, 1, 0] rfl ?_
          exact ih _ _ _ _ hm kk
set_option maxRecDepth 100000 in
theorem c_St_wordsReached_12 {G : Gx} (hi : qinj (gad G)) {S : St}  {zr : Int32} (hm : m_St_wordsReached 12 0 S  = some zr) : QMet G yX7_wordsReached cX7_wordsReached 3 (some .int) 1 21 [.ref (gad G 12)] S (some (.int zr)) S := by
  refine q_entry (by decide +kernel) rfl hi (Nat.le_of_ble_eq_true rfl) ?_
  intro X C
  refine q_lv (lv' := [(0, .ref (gad G 12))]) [0] rfl ?_
  unfold m_St_wordsReached at hm
  refine q_iconst (pc := 0) (v := (0 : Int32)) C dX7_wordsReached_0 (by decide) ?_
  refine q_istore_n (pc := 1) (lv' := [(1, .int (0 : Int32)), (0, .ref (gad G 12))]) C dX7_wordsReached_1 rfl (by decide) rfl ?_
  refine q_iconst (pc := 2) (v := (0 : Int32)) C dX7_wordsReached_2 (by decide) ?_
  refine q_istore_n (pc := 3) (lv' := [(2, .int (0 : Int32)), (1, .int (0 : Int32)), (0, .ref (gad G 12))]) C dX7_wordsReached_3 rfl (by decide) rfl ?_
  refine q_lv (lv' := [(0, .ref (gad G 12)), (1, .int (0 : Int32)), (2, .int (0 : Int32))]) [2, 1, 0] rfl ?_
  obtain ⟨y1, h1, hm⟩ := o1_some hm
  refine w_St_wordsReached_12_L4 hi C 200 _ _ _ _ h1 ?_
  refine q_iload_n (pc := 55) C dX7_wordsReached_55 rfl 0 rfl ?_
  cases hm
  exact q_iret (pc := 56) C dX7_wordsReached_56
set_option maxRecDepth 100000 in
theorem c_Cop_workToDo {G : Gx} (hi : qinj (gad G)) {S : St}  {zr : Int32} (hm : m_Cop_workToDo S  = some zr) : QMet G yX0_workToDo cX0_workToDo 1 (some .int) 2 43 [.ref (gad G 12)] S (some (.int zr)) S := by
  refine q_entry (by decide +kernel) rfl hi (Nat.le_of_ble_eq_true rfl) ?_
  intro X C
  refine q_lv (lv' := [(0, .ref (gad G 12))]) [0] rfl ?_
  unfold m_Cop_workToDo at hm
  refine q_aload_n (pc := 0) C dX0_workToDo_0 rfl 0 rfl ?_
  obtain ⟨r1, h1, hm⟩ := o1_some hm
  refine q_callU (pc := 1) (k := 12) (As := []) (rest := []) (T := TX0) (owner := "Tessera$Store") (x := ⟨"Tessera$Copying", "wordsReached", "()I"⟩) C (c_St_wordsReached_12 hi h1) (by decide) (ce_12 _ _ _) (ci := 0) rfl (Or.inl rfl) tw_840 tw_841 tw_523 tw_842 tw_62 tw_524 (nA := 0) (by decide +kernel) rfl (by decide) (Nat.le_of_ble_eq_true rfl) rfl dX0_workToDo_1 ?_
  cases hm
  exact q_iret (pc := 4) C dX0_workToDo_4
set_option maxRecDepth 100000 in
theorem c_Nur_workToDo {G : Gx} (hi : qinj (gad G)) {S : St}  {zr : Int32} (hm : m_Nur_workToDo S  = some zr) : QMet G yX4_workToDo cX4_workToDo 1 (some .int) 3 63 [.ref (gad G 18)] S (some (.int zr)) S := by
  refine q_entry (by decide +kernel) rfl hi (Nat.le_of_ble_eq_true rfl) ?_
  intro X C
  refine q_lv (lv' := [(0, .ref (gad G 18))]) [0] rfl ?_
  unfold m_Nur_workToDo at hm
  refine q_aload_n (pc := 0) C dX4_workToDo_0 rfl 0 rfl ?_
  obtain ⟨r1, h1, hm⟩ := o1_some hm
  refine q_callV (pc := 1) (k := 18) (As := []) (rest := []) (T := TX4) C (c_Nur_greatFits hi h1) (by decide) (ce_18 _ _ _) (ci := 4) rfl tw_516 tw_517 tw_518 tw_16 tw_519 (nA := 0) (by decide +kernel) rfl (by decide) (Nat.le_of_ble_eq_true rfl) rfl dX4_workToDo_1 ?_
  refine q_if_eq (pc := 4) (tgt := 14) C dX4_workToDo_4 (by decide) (fun c1 => ?_) (fun c1 => ?_)
  · replace hm := hm_t c1 hm
    refine q_iconst (pc := 14) (v := (0 : Int32)) C dX4_workToDo_14 (by decide) ?_
    cases hm
    exact q_iret (pc := 15) C dX4_workToDo_15
  · replace hm := hm_f c1 hm
    refine q_aload_n (pc := 7) C dX4_workToDo_7 rfl 0 rfl ?_
    obtain ⟨r2, h2, hm⟩ := o1_some hm
    refine q_callU (pc := 8) (k := 18) (As := []) (rest := []) (T := TX4) (owner := "Tessera$Store") (x := ⟨"Tessera$Nursery", "wordsReached", "()I"⟩) C (c_St_wordsReached_18 hi h2) (by decide) (ce_18 _ _ _) (ci := 4) rfl (Or.inl rfl) tw_520 tw_521 tw_523 tw_522 tw_62 tw_524 (nA := 0) (by decide +kernel) rfl (by decide) (Nat.le_of_ble_eq_true rfl) rfl dX4_workToDo_8 ?_
    refine q_goto (pc := 11) (tgt := 15) C dX4_workToDo_11 (by decide) ?_
    cases hm
    exact q_iret (pc := 15) C dX4_workToDo_15
set_option maxRecDepth 100000 in
theorem w_Mar_workToDo_L11 {G : Gx} (hi : qinj (gad G)) {X : Cx} (C : QC G X cX3_workToDo 3 RX3 4 86 (some .int)) {Q : State → Prop} : ∀ (n : Nat) (S : St) (v1 : Int32) (v2 : Int32) (x1 : Int32), m_Mar_workToDo_L11 n S v1 v2 = some x1 → QW G X 3 Q 46 [(1, .int x1)] [] S → QW G X 3 Q 11 [(0, .ref (gad G 31)), (1, .int v1), (2, .int v2)] [] S := by
  intro n
  induction n with
  | zero =>
    intro S v1 v2 x1 hm kk
    rw [m_Mar_workToDo_L11] at hm
    cases hm
  | succ n ih =>
    intro S v1 v2 x1 hm kk
    rw [m_Mar_workToDo_L11] at hm
    refine q_iload_n (pc := 11) C dX3_workToDo_11 rfl 2 rfl ?_
    refine q_aload_n (pc := 12) C dX3_workToDo_12 rfl 0 rfl ?_
    refine q_get (pc := 13) (T := TX3) (v := .ref (gad G 39)) C (by decide) (ce_31 _ _ _) (ci := 3) rfl inlX3 (j := 13) (by decide) rfl tw_75 (Or.inl rfl) dX3_workToDo_13 ?_
    refine q_get (pc := 16) (T := TX5) (v := .int (S 39 2)) C (by decide) (ce_39 _ _ _) (ci := 5) rfl inlX5 (j := 2) (by decide) rfl tw_448 (Or.inl rfl) dX3_workToDo_16 ?_
    refine q_icmp_ge (pc := 19) (tgt := 46) C dX3_workToDo_19 (by decide) (fun c1 => ?_) (fun c1 => ?_)
    · replace hm := hm_t c1 hm
      cases hm
      refine q_lv (lv' := [(1, .int v1)]) [1] rfl ?_
      exact kk
    · replace hm := hm_f c1 hm
      refine q_iload_n (pc := 22) C dX3_workToDo_22 rfl 1 rfl ?_
      refine q_aload_n (pc := 23) C dX3_workToDo_23 rfl 0 rfl ?_
      refine q_get (pc := 24) (T := TX3) (v := .ref (gad G 1)) C (by decide) (ce_31 _ _ _) (ci := 3) rfl inlX3 (j := 1) (by decide) rfl tw_421 (Or.inr tw_422) dX3_workToDo_24 ?_
      refine q_aload_n (pc := 27) C dX3_workToDo_27 rfl 0 rfl ?_
      refine q_get (pc := 28) (T := TX3) (v := .ref (gad G 39)) C (by decide) (ce_31 _ _ _) (ci := 3) rfl inlX3 (j := 13) (by decide) rfl tw_75 (Or.inl rfl) dX3_workToDo_28 ?_
      refine q_iload_n (pc := 31) C dX3_workToDo_31 rfl 2 rfl ?_
      obtain ⟨r1, h1, hm⟩ := o1_some hm
      refine q_callV (pc := 32) (k := 39) (As := [.int v2]) (rest := [.ref (gad G 1), .int v1]) (T := TX5) C (c_Row_get_39 hi h1) (by decide) (ce_39 _ _ _) (ci := 5) rfl tw_464 tw_271 tw_272 tw_43 tw_273 (nA := 1) (by decide +kernel) rfl (by decide) (Nat.le_of_ble_eq_true rfl) rfl dX3_workToDo_32 ?_
      obtain ⟨r2, h2, hm⟩ := o1_some hm
      refine q_callV (pc := 35) (k := 1) (As := [.int r1]) (rest := [.int v1]) (T := TX2) C (c_Gr_wordsOf hi h2) (by decide) (ce_1 _ _ _) (ci := 2) rfl tw_467 tw_229 tw_230 tw_13 tw_231 (nA := 1) (by decide +kernel) rfl (by decide) (Nat.le_of_ble_eq_true rfl) rfl dX3_workToDo_35 ?_
      refine q_iadd (pc := 38) C dX3_workToDo_38 ?_
      refine q_istore_n (pc := 39) (lv' := [(1, .int (v1 + r2)), (0, .ref (gad G 31)), (2, .int v2)]) C dX3_workToDo_39 rfl (by decide) rfl ?_
      refine q_iinc (pc := 40) (k := 2) (v := (v2 + (1 : Int32))) (lv' := [(2, .int (v2 + (1 : Int32))), (1, .int (v1 + r2)), (0, .ref (gad G 31))]) C dX3_workToDo_40 rfl rfl (by decide) rfl ?_
      refine q_goto (pc := 43) (tgt := 11) C dX3_workToDo_43 (by decide) ?_
      refine q_lv (lv' := [(0, .ref (gad G 31)), (1, .int (v1 + r2)), (2, .int (v2 + (1 : Int32)))]) [2, 1, 0] rfl ?_
      exact ih _ _ _ _ hm kk
set_option maxRecDepth 100000 in
theorem c_Mar_workToDo {G : Gx} (hi : qinj (gad G)) {S : St}  {zr : Int32} {zS : St} (hm : m_Mar_workToDo S  = some (zr, zS)) : QMet G yX3_workToDo cX3_workToDo 3 (some .int) 4 86 [.ref (gad G 31)] S (some (.int zr)) zS := by
  refine q_entry (by decide +kernel) rfl hi (Nat.le_of_ble_eq_true rfl) ?_
  intro X C
  refine q_lv (lv' := [(0, .ref (gad G 31))]) [0] rfl ?_
  unfold m_Mar_workToDo at hm
  refine q_aload_n (pc := 0) C dX3_workToDo_0 rfl 0 rfl ?_
  obtain ⟨S1, h1, hm⟩ := o1_some hm
  refine q_callV (pc := 1) (k := 31) (As := []) (rest := []) (T := TX3) C (c_Mar_foresee hi h1) (by decide) (ce_31 _ _ _) (ci := 3) rfl tw_816 tw_817 tw_818 tw_19 tw_819 (nA := 0) (by decide +kernel) rfl (by decide) (Nat.le_of_ble_eq_true rfl) rfl dX3_workToDo_1 ?_
  refine q_aload_n (pc := 4) C dX3_workToDo_4 rfl 0 rfl ?_
  obtain ⟨r1, h2, hm⟩ := o1_some hm
  refine q_callU (pc := 5) (k := 31) (As := []) (rest := []) (T := TX3) (owner := "Tessera$Store") (x := ⟨"Tessera$Marking", "countHad", "()I"⟩) C (c_St_countHad_31 hi h2) (by decide) (ce_31 _ _ _) (ci := 3) rfl (Or.inl rfl) tw_458 tw_459 tw_250 tw_460 tw_62 tw_251 (nA := 0) (by decide +kernel) rfl (by decide) (Nat.le_of_ble_eq_true rfl) rfl dX3_workToDo_5 ?_
  refine q_istore_n (pc := 8) (lv' := [(1, .int r1), (0, .ref (gad G 31))]) C dX3_workToDo_8 rfl (by decide) rfl ?_
  refine q_iconst (pc := 9) (v := (0 : Int32)) C dX3_workToDo_9 (by decide) ?_
  refine q_istore_n (pc := 10) (lv' := [(2, .int (0 : Int32)), (1, .int r1), (0, .ref (gad G 31))]) C dX3_workToDo_10 rfl (by decide) rfl ?_
  refine q_lv (lv' := [(0, .ref (gad G 31)), (1, .int r1), (2, .int (0 : Int32))]) [2, 1, 0] rfl ?_
  obtain ⟨y1, h3, hm⟩ := o1_some hm
  refine w_Mar_workToDo_L11 hi C 200 _ _ _ _ h3 ?_
  refine q_iload_n (pc := 46) C dX3_workToDo_46 rfl 0 rfl ?_
  cases hm
  exact q_iret (pc := 47) C dX3_workToDo_47
set_option maxRecDepth 100000 in
theorem c_Cou_workToDo {G : Gx} (hi : qinj (gad G)) {S : St}  {zr : Int32} {zS : St} (hm : m_Cou_workToDo S  = some (zr, zS)) : QMet G yX1_workToDo cX1_workToDo 1 (some .int) 4 88 [.ref (gad G 42)] S (some (.int zr)) zS := by
  refine q_entry (by decide +kernel) rfl hi (Nat.le_of_ble_eq_true rfl) ?_
  intro X C
  refine q_lv (lv' := [(0, .ref (gad G 42))]) [0] rfl ?_
  unfold m_Cou_workToDo at hm
  refine q_aload_n (pc := 0) C dX1_workToDo_0 rfl 0 rfl ?_
  obtain ⟨S1, h1, hm⟩ := o1_some hm
  refine q_callV (pc := 1) (k := 42) (As := []) (rest := []) (T := TX1) C (c_Cou_findRings hi h1) (by decide) (ce_42 _ _ _) (ci := 1) rfl tw_355 tw_356 tw_357 tw_22 tw_358 (nA := 0) (by decide +kernel) rfl (by decide) (Nat.le_of_ble_eq_true rfl) rfl dX1_workToDo_1 ?_
  refine q_aload_n (pc := 4) C dX1_workToDo_4 rfl 0 rfl ?_
  refine q_get (pc := 5) (T := TX1) (v := .ref (gad G 52)) C (by decide) (ce_42 _ _ _) (ci := 1) rfl inlX1 (j := 15) (by decide) rfl tw_90 (Or.inl rfl) dX1_workToDo_5 ?_
  refine q_get (pc := 8) (T := TX5) (v := .int (S1 52 2)) C (by decide) (ce_52 _ _ _) (ci := 5) rfl inlX5 (j := 2) (by decide) rfl tw_352 (Or.inl rfl) dX1_workToDo_8 ?_
  cases hm
  exact q_iret (pc := 11) C dX1_workToDo_11
set_option maxRecDepth 100000 in
theorem c_Te_wouldWork {G : Gx} (hi : qinj (gad G)) {S : St} {a1 : Int32} {zr : Int32} {zS : St} (hm : m_Te_wouldWork S a1 = some (zr, zS)) : QMet G yX8_wouldWork cX8_wouldWork 3 (some .int) 5 108 [.ref (gad G 0), .int a1] S (some (.int zr)) zS := by
  refine q_entry (by decide +kernel) rfl hi (Nat.le_of_ble_eq_true rfl) ?_
  intro X C
  refine q_lv (lv' := [(0, .ref (gad G 0)), (1, .int a1)]) [0, 1] rfl ?_
  unfold m_Te_wouldWork at hm
  refine q_aload_n (pc := 0) C dX8_wouldWork_0 rfl 0 rfl ?_
  refine q_iload_n (pc := 1) C dX8_wouldWork_1 rfl 1 rfl ?_
  obtain ⟨k1, h1, hm⟩ := o1_some hm
  refine q_callV (pc := 2) (k := 0) (As := [.int a1]) (rest := []) (T := TX8) C (c_Te_storeOf hi h1) (by decide) (ce_0 _ _ _) (ci := 6) rfl tw_716 tw_717 tw_718 tw_2 tw_719 (nA := 1) (by decide +kernel) rfl (by decide) (Nat.le_of_ble_eq_true rfl) rfl dX8_wouldWork_2 ?_
  by_cases c5 : k1 = 12
  · replace hm := hm_t c5 hm
    subst c5
    refine q_astore_n (pc := 5) (lv' := [(2, .ref (gad G 12)), (0, .ref (gad G 0)), (1, .int a1)]) C dX8_wouldWork_5 rfl (by decide) rfl ?_
    refine q_aload_n (pc := 6) C dX8_wouldWork_6 rfl 0 rfl ?_
    refine q_get (pc := 7) (T := TX0) (v := .int (S 12 5)) C (by decide) (ce_12 _ _ _) (ci := 0) rfl inlX0 (j := 5) (by decide) rfl tw_199 (Or.inl rfl) dX8_wouldWork_7 ?_
    refine q_if_eq (pc := 10) (tgt := 17) C dX8_wouldWork_10 (by decide) (fun c1 => ?_) (fun c1 => ?_)
    · replace hm := hm_t c1 hm
      refine q_aload_n (pc := 17) C dX8_wouldWork_17 rfl 0 rfl ?_
      obtain ⟨r1, h2, hm⟩ := o1_some hm
      refine q_callU (pc := 18) (k := 12) (As := []) (rest := []) (T := TX0) (owner := "Tessera$Store") (x := ⟨"Tessera$Store", "workToDo", "()I"⟩) C (c_Cop_workToDo hi h2) (by decide) (ce_12 _ _ _) (ci := 0) rfl (Or.inr (Or.inl (by decide))) tw_835 tw_836 tw_838 tw_837 tw_26 tw_839 (nA := 0) (by decide +kernel) rfl (by decide) (Nat.le_of_ble_eq_true rfl) rfl dX8_wouldWork_18 ?_
      cases hm
      exact q_iret (pc := 21) C dX8_wouldWork_21
    · replace hm := hm_f c1 hm
      refine q_iconst (pc := 13) (v := (0 : Int32)) C dX8_wouldWork_13 (by decide) ?_
      refine q_goto (pc := 14) (tgt := 21) C dX8_wouldWork_14 (by decide) ?_
      cases hm
      exact q_iret (pc := 21) C dX8_wouldWork_21
  replace hm := hm_f c5 hm
  by_cases c6 : k1 = 18
  · replace hm := hm_t c6 hm
    subst c6
    refine q_astore_n (pc := 5) (lv' := [(2, .ref (gad G 18)), (0, .ref (gad G 0)), (1, .int a1)]) C dX8_wouldWork_5 rfl (by decide) rfl ?_
    refine q_aload_n (pc := 6) C dX8_wouldWork_6 rfl 0 rfl ?_
    refine q_get (pc := 7) (T := TX4) (v := .int (S 18 5)) C (by decide) (ce_18 _ _ _) (ci := 4) rfl inlX4 (j := 5) (by decide) rfl tw_199 (Or.inl rfl) dX8_wouldWork_7 ?_
    refine q_if_eq (pc := 10) (tgt := 17) C dX8_wouldWork_10 (by decide) (fun c2 => ?_) (fun c2 => ?_)
    · replace hm := hm_t c2 hm
      refine q_aload_n (pc := 17) C dX8_wouldWork_17 rfl 0 rfl ?_
      obtain ⟨r2, h3, hm⟩ := o1_some hm
      refine q_callU (pc := 18) (k := 18) (As := []) (rest := []) (T := TX4) (owner := "Tessera$Store") (x := ⟨"Tessera$Store", "workToDo", "()I"⟩) C (c_Nur_workToDo hi h3) (by decide) (ce_18 _ _ _) (ci := 4) rfl (Or.inr (Or.inl (by decide))) tw_835 tw_836 tw_850 tw_849 tw_16 tw_851 (nA := 0) (by decide +kernel) rfl (by decide) (Nat.le_of_ble_eq_true rfl) rfl dX8_wouldWork_18 ?_
      cases hm
      exact q_iret (pc := 21) C dX8_wouldWork_21
    · replace hm := hm_f c2 hm
      refine q_iconst (pc := 13) (v := (0 : Int32)) C dX8_wouldWork_13 (by decide) ?_
      refine q_goto (pc := 14) (tgt := 21) C dX8_wouldWork_14 (by decide) ?_
      cases hm
      exact q_iret (pc := 21) C dX8_wouldWork_21
  replace hm := hm_f c6 hm
  by_cases c7 : k1 = 31
  · replace hm := hm_t c7 hm
    subst c7
    refine q_astore_n (pc := 5) (lv' := [(2, .ref (gad G 31)), (0, .ref (gad G 0)), (1, .int a1)]) C dX8_wouldWork_5 rfl (by decide) rfl ?_
    refine q_aload_n (pc := 6) C dX8_wouldWork_6 rfl 0 rfl ?_
    refine q_get (pc := 7) (T := TX3) (v := .int (S 31 6)) C (by decide) (ce_31 _ _ _) (ci := 3) rfl inlX3 (j := 6) (by decide) rfl tw_199 (Or.inl rfl) dX8_wouldWork_7 ?_
    refine q_if_eq (pc := 10) (tgt := 17) C dX8_wouldWork_10 (by decide) (fun c3 => ?_) (fun c3 => ?_)
    · replace hm := hm_t c3 hm
      refine q_aload_n (pc := 17) C dX8_wouldWork_17 rfl 0 rfl ?_
      obtain ⟨r3, S1, h4, hm⟩ := ob_some hm
      refine q_callU (pc := 18) (k := 31) (As := []) (rest := []) (T := TX3) (owner := "Tessera$Store") (x := ⟨"Tessera$Store", "workToDo", "()I"⟩) C (c_Mar_workToDo hi h4) (by decide) (ce_31 _ _ _) (ci := 3) rfl (Or.inr (Or.inl (by decide))) tw_835 tw_836 tw_847 tw_846 tw_19 tw_848 (nA := 0) (by decide +kernel) rfl (by decide) (Nat.le_of_ble_eq_true rfl) rfl dX8_wouldWork_18 ?_
      cases hm
      exact q_iret (pc := 21) C dX8_wouldWork_21
    · replace hm := hm_f c3 hm
      refine q_iconst (pc := 13) (v := (0 : Int32)) C dX8_wouldWork_13 (by decide) ?_
      refine q_goto (pc := 14) (tgt := 21) C dX8_wouldWork_14 (by decide) ?_
      cases hm
      exact q_iret (pc := 21) C dX8_wouldWork_21
  replace hm := hm_f c7 hm
  by_cases c8 : k1 = 42
  · replace hm := hm_t c8 hm
    subst c8
    refine q_astore_n (pc := 5) (lv' := [(2, .ref (gad G 42)), (0, .ref (gad G 0)), (1, .int a1)]) C dX8_wouldWork_5 rfl (by decide) rfl ?_
    refine q_aload_n (pc := 6) C dX8_wouldWork_6 rfl 0 rfl ?_
    refine q_get (pc := 7) (T := TX1) (v := .int (S 42 6)) C (by decide) (ce_42 _ _ _) (ci := 1) rfl inlX1 (j := 6) (by decide) rfl tw_199 (Or.inl rfl) dX8_wouldWork_7 ?_
    refine q_if_eq (pc := 10) (tgt := 17) C dX8_wouldWork_10 (by decide) (fun c4 => ?_) (fun c4 => ?_)
    · replace hm := hm_t c4 hm
      refine q_aload_n (pc := 17) C dX8_wouldWork_17 rfl 0 rfl ?_
      obtain ⟨r4, S2, h5, hm⟩ := ob_some hm
      refine q_callU (pc := 18) (k := 42) (As := []) (rest := []) (T := TX1) (owner := "Tessera$Store") (x := ⟨"Tessera$Store", "workToDo", "()I"⟩) C (c_Cou_workToDo hi h5) (by decide) (ce_42 _ _ _) (ci := 1) rfl (Or.inr (Or.inl (by decide))) tw_835 tw_836 tw_844 tw_843 tw_22 tw_845 (nA := 0) (by decide +kernel) rfl (by decide) (Nat.le_of_ble_eq_true rfl) rfl dX8_wouldWork_18 ?_
      cases hm
      exact q_iret (pc := 21) C dX8_wouldWork_21
    · replace hm := hm_f c4 hm
      refine q_iconst (pc := 13) (v := (0 : Int32)) C dX8_wouldWork_13 (by decide) ?_
      refine q_goto (pc := 14) (tgt := 21) C dX8_wouldWork_14 (by decide) ?_
      cases hm
      exact q_iret (pc := 21) C dX8_wouldWork_21
  replace hm := hm_f c8 hm
  cases hm
set_option maxRecDepth 100000 in
theorem c_Te_more {G : Gx} (hi : qinj (gad G)) {S : St} {a1 : Int32} {zr : Int32} (hm : m_Te_more S a1 = some zr) : QMet G yX8_more cX8_more 2 (some .int) 1 21 [.ref (gad G 0), .int a1] S (some (.int zr)) S := by
  refine q_entry (by decide +kernel) rfl hi (Nat.le_of_ble_eq_true rfl) ?_
  intro X C
  refine q_lv (lv' := [(0, .ref (gad G 0)), (1, .int a1)]) [0, 1] rfl ?_
  unfold m_Te_more at hm
  refine q_iload_n (pc := 0) C dX8_more_0 rfl 1 rfl ?_
  refine q_iconst (pc := 1) (v := (3 : Int32)) C dX8_more_1 (by decide) ?_
  obtain ⟨u1, h1, hm⟩ := o1_some hm
  refine q_callS (pc := 2) (As := [.int a1, .int (3 : Int32)]) (rest := []) C (c_Te_checkWhat hi h1) tw_667 tw_668 tw_2 tw_669 (nA := 2) (by decide +kernel) rfl (by decide) (Nat.le_of_ble_eq_true rfl) rfl dX8_more_2 ?_
  refine q_iload_n (pc := 5) C dX8_more_5 rfl 1 rfl ?_
  by_cases c1 : a1 = (0 : Int32)
  · replace hm := hm_t c1 hm
    refine q_tableIn (pc := 6) (tgt := 32) C dX8_more_6 (by rw [c1]; decide) (by rw [c1]; decide) (by rw [c1]; rfl) (by decide) ?_
    refine q_aload_n (pc := 32) C dX8_more_32 rfl 0 rfl ?_
    refine q_get (pc := 33) (T := TX8) (v := .ref (gad G 18)) C (by decide) (ce_0 _ _ _) (ci := 6) rfl inlX8 (j := 1) (by decide) rfl tw_28 (Or.inl rfl) dX8_more_33 ?_
    refine q_get (pc := 36) (T := TX4) (v := .int (S 18 9)) C (by decide) (ce_18 _ _ _) (ci := 4) rfl inlX4 (j := 9) (by decide) rfl tw_856 (Or.inl rfl) dX8_more_36 ?_
    cases hm
    exact q_iret (pc := 39) C dX8_more_39
  replace hm := hm_f c1 hm
  by_cases c2 : a1 = (1 : Int32)
  · replace hm := hm_t c2 hm
    refine q_tableIn (pc := 6) (tgt := 40) C dX8_more_6 (by rw [c2]; decide) (by rw [c2]; decide) (by rw [c2]; rfl) (by decide) ?_
    refine q_aload_n (pc := 40) C dX8_more_40 rfl 0 rfl ?_
    refine q_get (pc := 41) (T := TX8) (v := .ref (gad G 18)) C (by decide) (ce_0 _ _ _) (ci := 6) rfl inlX8 (j := 1) (by decide) rfl tw_28 (Or.inl rfl) dX8_more_41 ?_
    refine q_get (pc := 44) (T := TX4) (v := .int (S 18 10)) C (by decide) (ce_18 _ _ _) (ci := 4) rfl inlX4 (j := 10) (by decide) rfl tw_857 (Or.inl rfl) dX8_more_44 ?_
    cases hm
    exact q_iret (pc := 47) C dX8_more_47
  replace hm := hm_f c2 hm
  by_cases c3 : a1 = (2 : Int32)
  · replace hm := hm_t c3 hm
    refine q_tableIn (pc := 6) (tgt := 48) C dX8_more_6 (by rw [c3]; decide) (by rw [c3]; decide) (by rw [c3]; rfl) (by decide) ?_
    refine q_aload_n (pc := 48) C dX8_more_48 rfl 0 rfl ?_
    refine q_get (pc := 49) (T := TX8) (v := .ref (gad G 31)) C (by decide) (ce_0 _ _ _) (ci := 6) rfl inlX8 (j := 2) (by decide) rfl tw_29 (Or.inl rfl) dX8_more_49 ?_
    refine q_get (pc := 52) (T := TX3) (v := .int (S 31 10)) C (by decide) (ce_31 _ _ _) (ci := 3) rfl inlX3 (j := 10) (by decide) rfl tw_858 (Or.inl rfl) dX8_more_52 ?_
    obtain ⟨r1, h2, hm⟩ := o1_some hm
    refine q_callS (pc := 55) (As := [.int (S 31 10)]) (rest := []) C (c_Te_asNumber hi h2) tw_671 tw_672 tw_2 tw_673 (nA := 1) (by decide +kernel) rfl (by decide) (Nat.le_of_ble_eq_true rfl) rfl dX8_more_55 ?_
    cases hm
    exact q_iret (pc := 58) C dX8_more_58
  replace hm := hm_f c3 hm
  refine q_tableOut (pc := 6) (tgt := 59) C dX8_more_6 (q_out 2 (by decide) [(0 : Int32), (1 : Int32), (2 : Int32)] (by decide) (by simp [c1, c2, c3])) (by decide) ?_
  refine q_aload_n (pc := 59) C dX8_more_59 rfl 0 rfl ?_
  refine q_get (pc := 60) (T := TX8) (v := .ref (gad G 42)) C (by decide) (ce_0 _ _ _) (ci := 6) rfl inlX8 (j := 3) (by decide) rfl tw_30 (Or.inl rfl) dX8_more_60 ?_
  refine q_get (pc := 63) (T := TX1) (v := .int (S 42 10)) C (by decide) (ce_42 _ _ _) (ci := 1) rfl inlX1 (j := 10) (by decide) rfl tw_859 (Or.inl rfl) dX8_more_63 ?_
  cases hm
  exact q_iret (pc := 66) C dX8_more_66
set_option maxRecDepth 100000 in
theorem w_Row_empty_9_L2 {G : Gx} (hi : qinj (gad G)) {X : Cx} (C : QC G X cX5_empty 2 RX5 0 0 none) {Q : State → Prop} : ∀ (n : Nat) (S : St) (v1 : Int32) (zS : St), m_Row_empty_L2 9 n S v1 = some zS → QW G X 2 Q 21 [(0, .ref (gad G 9))] [] zS → QW G X 2 Q 2 [(0, .ref (gad G 9)), (1, .int v1)] [] S := by
  intro n
  induction n with
  | zero =>
    intro S v1 zS hm kk
    rw [m_Row_empty_L2] at hm
    cases hm
  | succ n ih =>
    intro S v1 zS hm kk
    rw [m_Row_empty_L2] at hm
    refine q_iload_n (pc := 2) C dX5_empty_2 rfl 1 rfl ?_
    refine q_bipush (pc := 3) (v := (80 : Int32)) C dX5_empty_3 (by decide) ?_
    refine q_icmp_ge (pc := 5) (tgt := 21) C dX5_empty_5 (by decide) (fun c1 => ?_) (fun c1 => ?_)
    · replace hm := hm_t c1 hm
      cases hm
      refine q_lv (lv' := [(0, .ref (gad G 9))]) [0] rfl ?_
      exact kk
    · replace hm := hm_f c1 hm
      refine q_aload_n (pc := 8) C dX5_empty_8 rfl 0 rfl ?_
      refine q_get (pc := 9) (T := TX5) (v := .ref (gad G 11)) C (by decide) (ce_9 _ _ _) (ci := 5) rfl inlX5 (j := 1) (by decide) rfl tw_50 (Or.inl rfl) dX5_empty_9 ?_
      refine q_iload_n (pc := 12) C dX5_empty_12 rfl 1 rfl ?_
      refine q_iconst (pc := 13) (v := (0 : Int32)) C dX5_empty_13 (by decide) ?_
      obtain ⟨b1, hm⟩ := oi_some hm
      refine q_zast0 (pc := 14) C (by decide) (fun _ => ce_11 _ _ _) (ty_11 _) b1 dX5_empty_14 ?_
      refine q_iinc (pc := 15) (k := 1) (v := (v1 + (1 : Int32))) (lv' := [(1, .int (v1 + (1 : Int32))), (0, .ref (gad G 9))]) C dX5_empty_15 rfl rfl (by decide) rfl ?_
      refine q_goto (pc := 18) (tgt := 2) C dX5_empty_18 (by decide) ?_
      refine q_lv (lv' := [(0, .ref (gad G 9)), (1, .int (v1 + (1 : Int32)))]) [1, 0] rfl ?_
      exact ih _ _ _ hm kk
set_option maxRecDepth 100000 in
theorem c_Row_empty_9 {G : Gx} (hi : qinj (gad G)) {S : St}  {zS : St} (hm : m_Row_empty 9 S  = some zS) : QMet G yX5_empty cX5_empty 2 none 0 0 [.ref (gad G 9)] S none zS := by
  refine q_entry (by decide +kernel) rfl hi (Nat.le_of_ble_eq_true rfl) ?_
  intro X C
  refine q_lv (lv' := [(0, .ref (gad G 9))]) [0] rfl ?_
  unfold m_Row_empty at hm
  refine q_iconst (pc := 0) (v := (0 : Int32)) C dX5_empty_0 (by decide) ?_
  refine q_istore_n (pc := 1) (lv' := [(1, .int (0 : Int32)), (0, .ref (gad G 9))]) C dX5_empty_1 rfl (by decide) rfl ?_
  refine q_lv (lv' := [(0, .ref (gad G 9)), (1, .int (0 : Int32))]) [1, 0] rfl ?_
  obtain ⟨S1, h1, hm⟩ := o1_some hm
  refine w_Row_empty_9_L2 hi C 200 _ _ _ h1 ?_
  refine q_aload_n (pc := 21) C dX5_empty_21 rfl 0 rfl ?_
  refine q_iconst (pc := 22) (v := (0 : Int32)) C dX5_empty_22 (by decide) ?_
  refine q_put (pc := 23) (T := TX5) (ty := .int) C tyX5 tyX5_ok nmX5 (by decide) (ce_9 _ _ _) (pe_9_2 _ _ _ _) (ci := 5) rfl inlX5 (j := 2) (by decide) (Nat.le_of_ble_eq_true rfl) tw_127 (Or.inl rfl) rfl (by decide +kernel) rfl rfl dX5_empty_23 ?_
  cases hm
  exact q_vret (pc := 26) C dX5_empty_26
set_option maxRecDepth 100000 in
theorem c_Row_add_9 {G : Gx} (hi : qinj (gad G)) {S : St} {a1 : Int32} {zS : St} (hm : m_Row_add 9 S a1 = some zS) : QMet G yX5_add cX5_add 2 none 0 0 [.ref (gad G 9), .int a1] S none zS := by
  refine q_entry (by decide +kernel) rfl hi (Nat.le_of_ble_eq_true rfl) ?_
  intro X C
  refine q_lv (lv' := [(0, .ref (gad G 9)), (1, .int a1)]) [0, 1] rfl ?_
  unfold m_Row_add at hm
  refine q_iload_n (pc := 0) C dX5_add_0 rfl 1 rfl ?_
  refine q_if_lt (pc := 1) (tgt := 28) C dX5_add_1 (by decide) (fun c1 => ?_) (fun c1 => ?_)
  · replace hm := hm_t c1 hm
    cases hm
    exact q_vret (pc := 28) C dX5_add_28
  · replace hm := hm_f c1 hm
    refine q_iload_n (pc := 4) C dX5_add_4 rfl 1 rfl ?_
    refine q_bipush (pc := 5) (v := (80 : Int32)) C dX5_add_5 (by decide) ?_
    refine q_icmp_ge (pc := 7) (tgt := 28) C dX5_add_7 (by decide) (fun c2 => ?_) (fun c2 => ?_)
    · replace hm := hm_t c2 hm
      cases hm
      exact q_vret (pc := 28) C dX5_add_28
    · replace hm := hm_f c2 hm
      refine q_aload_n (pc := 10) C dX5_add_10 rfl 0 rfl ?_
      refine q_get (pc := 11) (T := TX5) (v := .ref (gad G 11)) C (by decide) (ce_9 _ _ _) (ci := 5) rfl inlX5 (j := 1) (by decide) rfl tw_50 (Or.inl rfl) dX5_add_11 ?_
      refine q_iload_n (pc := 14) C dX5_add_14 rfl 1 rfl ?_
      obtain ⟨b1, hm⟩ := oi_some hm
      refine q_zald (pc := 15) C (by decide) (ce_11 _ _ _) (ty_11 _) b1 dX5_add_15 ?_
      refine q_if_ne (pc := 16) (tgt := 28) C dX5_add_16 (by decide) (fun c3 => ?_) (fun c3 => ?_)
      · replace hm := hm_f c3 hm
        cases hm
        exact q_vret (pc := 28) C dX5_add_28
      · replace hm := hm_t c3 hm
        refine q_aload_n (pc := 19) C dX5_add_19 rfl 0 rfl ?_
        refine q_get (pc := 20) (T := TX5) (v := .int (S 9 2)) C (by decide) (ce_9 _ _ _) (ci := 5) rfl inlX5 (j := 2) (by decide) rfl tw_127 (Or.inl rfl) dX5_add_20 ?_
        refine q_bipush (pc := 23) (v := (80 : Int32)) C dX5_add_23 (by decide) ?_
        refine q_icmp_lt (pc := 25) (tgt := 29) C dX5_add_25 (by decide) (fun c4 => ?_) (fun c4 => ?_)
        · replace hm := hm_t c4 hm
          refine q_aload_n (pc := 29) C dX5_add_29 rfl 0 rfl ?_
          refine q_get (pc := 30) (T := TX5) (v := .ref (gad G 11)) C (by decide) (ce_9 _ _ _) (ci := 5) rfl inlX5 (j := 1) (by decide) rfl tw_50 (Or.inl rfl) dX5_add_30 ?_
          refine q_iload_n (pc := 33) C dX5_add_33 rfl 1 rfl ?_
          refine q_iconst (pc := 34) (v := (1 : Int32)) C dX5_add_34 (by decide) ?_
          obtain ⟨b2, hm⟩ := oi_some hm
          refine q_zast1 (pc := 35) C (by decide) (fun _ => ce_11 _ _ _) (ty_11 _) b2 dX5_add_35 ?_
          refine q_aload_n (pc := 36) C dX5_add_36 rfl 0 rfl ?_
          refine q_get (pc := 37) (T := TX5) (v := .ref (gad G 10)) C (by decide) (ce_9 _ _ _) (ci := 5) rfl inlX5 (j := 0) (by decide) rfl tw_49 (Or.inl rfl) dX5_add_37 ?_
          refine q_aload_n (pc := 40) C dX5_add_40 rfl 0 rfl ?_
          refine q_get (pc := 41) (T := TX5) (v := .int (S 9 2)) C (by decide) (ce_9 _ _ _) (ci := 5) rfl inlX5 (j := 2) (by decide) rfl tw_127 (Or.inl rfl) dX5_add_41 ?_
          refine q_iload_n (pc := 44) C dX5_add_44 rfl 1 rfl ?_
          obtain ⟨b3, hm⟩ := oi_some hm
          refine q_iast (pc := 45) C (by decide) (fun _ => ce_10 _ _ _) (ty_10 _) b3 dX5_add_45 ?_
          refine q_aload_n (pc := 46) C dX5_add_46 rfl 0 rfl ?_
          refine q_dup (pc := 47) C dX5_add_47 rfl ?_
          refine q_get (pc := 48) (T := TX5) (v := .int (S 9 2)) C (by decide) (ce_9 _ _ _) (ci := 5) rfl inlX5 (j := 2) (by decide) rfl tw_127 (Or.inl rfl) dX5_add_48 ?_
          refine q_iconst (pc := 51) (v := (1 : Int32)) C dX5_add_51 (by decide) ?_
          refine q_iadd (pc := 52) C dX5_add_52 ?_
          refine q_put (pc := 53) (T := TX5) (ty := .int) C tyX5 tyX5_ok nmX5 (by decide) (ce_9 _ _ _) (pe_9_2 _ _ _ _) (ci := 5) rfl inlX5 (j := 2) (by decide) (Nat.le_of_ble_eq_true rfl) tw_127 (Or.inl rfl) rfl (by decide +kernel) rfl rfl dX5_add_53 ?_
          cases hm
          exact q_vret (pc := 56) C dX5_add_56
        · replace hm := hm_f c4 hm
          cases hm
          exact q_vret (pc := 28) C dX5_add_28
set_option maxRecDepth 100000 in
theorem c_Row_get_9 {G : Gx} (hi : qinj (gad G)) {S : St} {a1 : Int32} {zr : Int32} (hm : m_Row_get 9 S a1 = some zr) : QMet G yX5_get cX5_get 2 (some .int) 0 0 [.ref (gad G 9), .int a1] S (some (.int zr)) S := by
  refine q_entry (by decide +kernel) rfl hi (Nat.le_of_ble_eq_true rfl) ?_
  intro X C
  refine q_lv (lv' := [(0, .ref (gad G 9)), (1, .int a1)]) [0, 1] rfl ?_
  unfold m_Row_get at hm
  refine q_iload_n (pc := 0) C dX5_get_0 rfl 1 rfl ?_
  refine q_if_lt (pc := 1) (tgt := 21) C dX5_get_1 (by decide) (fun c1 => ?_) (fun c1 => ?_)
  · replace hm := hm_t c1 hm
    refine q_iconst (pc := 21) (v := (-1 : Int32)) C dX5_get_21 (by decide) ?_
    cases hm
    exact q_iret (pc := 22) C dX5_get_22
  · replace hm := hm_f c1 hm
    refine q_iload_n (pc := 4) C dX5_get_4 rfl 1 rfl ?_
    refine q_aload_n (pc := 5) C dX5_get_5 rfl 0 rfl ?_
    refine q_get (pc := 6) (T := TX5) (v := .int (S 9 2)) C (by decide) (ce_9 _ _ _) (ci := 5) rfl inlX5 (j := 2) (by decide) rfl tw_127 (Or.inl rfl) dX5_get_6 ?_
    refine q_icmp_ge (pc := 9) (tgt := 21) C dX5_get_9 (by decide) (fun c2 => ?_) (fun c2 => ?_)
    · replace hm := hm_t c2 hm
      refine q_iconst (pc := 21) (v := (-1 : Int32)) C dX5_get_21 (by decide) ?_
      cases hm
      exact q_iret (pc := 22) C dX5_get_22
    · replace hm := hm_f c2 hm
      refine q_aload_n (pc := 12) C dX5_get_12 rfl 0 rfl ?_
      refine q_get (pc := 13) (T := TX5) (v := .ref (gad G 10)) C (by decide) (ce_9 _ _ _) (ci := 5) rfl inlX5 (j := 0) (by decide) rfl tw_49 (Or.inl rfl) dX5_get_13 ?_
      refine q_iload_n (pc := 16) C dX5_get_16 rfl 1 rfl ?_
      obtain ⟨b1, hm⟩ := oi_some hm
      refine q_iald (pc := 17) C (by decide) (ce_10 _ _ _) (ty_10 _) b1 dX5_get_17 ?_
      refine q_goto (pc := 18) (tgt := 22) C dX5_get_18 (by decide) ?_
      cases hm
      exact q_iret (pc := 22) C dX5_get_22
set_option maxRecDepth 100000 in
theorem w_Gr_addNamedBy_9_L2 {G : Gx} (hi : qinj (gad G)) {X : Cx} (C : QC G X cX2_addNamedBy 4 RX2 1 22 none) {Q : State → Prop} : ∀ (n : Nat) (S : St) (v1 : Int32) (v3 : Int32) (zS : St), m_Gr_addNamedBy_L2 9 n S v1 v3 = some zS → QW G X 4 Q 27 [] [] zS → QW G X 4 Q 2 [(0, .ref (gad G 1)), (1, .int v1), (2, .ref (gad G 9)), (3, .int v3)] [] S := by
  intro n
  induction n with
  | zero =>
    intro S v1 v3 zS hm kk
    rw [m_Gr_addNamedBy_L2] at hm
    cases hm
  | succ n ih =>
    intro S v1 v3 zS hm kk
    rw [m_Gr_addNamedBy_L2] at hm
    refine q_iload_n (pc := 2) C dX2_addNamedBy_2 rfl 3 rfl ?_
    refine q_aload_n (pc := 3) C dX2_addNamedBy_3 rfl 0 rfl ?_
    refine q_iload_n (pc := 4) C dX2_addNamedBy_4 rfl 1 rfl ?_
    obtain ⟨r1, h1, hm⟩ := o1_some hm
    refine q_callV (pc := 5) (k := 1) (As := [.int v1]) (rest := [.int v3]) (T := TX2) C (c_Gr_fieldsOf hi h1) (by decide) (ce_1 _ _ _) (ci := 2) rfl tw_278 tw_279 tw_280 tw_13 tw_281 (nA := 1) (by decide +kernel) rfl (by decide) (Nat.le_of_ble_eq_true rfl) rfl dX2_addNamedBy_5 ?_
    refine q_icmp_ge (pc := 8) (tgt := 27) C dX2_addNamedBy_8 (by decide) (fun c1 => ?_) (fun c1 => ?_)
    · replace hm := hm_t c1 hm
      cases hm
      refine q_lv (lv' := []) [] rfl ?_
      exact kk
    · replace hm := hm_f c1 hm
      refine q_aload_n (pc := 11) C dX2_addNamedBy_11 rfl 2 rfl ?_
      refine q_aload_n (pc := 12) C dX2_addNamedBy_12 rfl 0 rfl ?_
      refine q_iload_n (pc := 13) C dX2_addNamedBy_13 rfl 1 rfl ?_
      refine q_iload_n (pc := 14) C dX2_addNamedBy_14 rfl 3 rfl ?_
      obtain ⟨r2, h2, hm⟩ := o1_some hm
      refine q_callV (pc := 15) (k := 1) (As := [.int v1, .int v3]) (rest := [.ref (gad G 9)]) (T := TX2) C (c_Gr_nameOf hi h2) (by decide) (ce_1 _ _ _) (ci := 2) rfl tw_282 tw_283 tw_284 tw_13 tw_285 (nA := 2) (by decide +kernel) rfl (by decide) (Nat.le_of_ble_eq_true rfl) rfl dX2_addNamedBy_15 ?_
      obtain ⟨S1, h3, hm⟩ := o1_some hm
      refine q_callV (pc := 18) (k := 9) (As := [.int r2]) (rest := []) (T := TX5) C (c_Row_add_9 hi h3) (by decide) (ce_9 _ _ _) (ci := 5) rfl tw_266 tw_267 tw_268 tw_43 tw_269 (nA := 1) (by decide +kernel) rfl (by decide) (Nat.le_of_ble_eq_true rfl) rfl dX2_addNamedBy_18 ?_
      refine q_iinc (pc := 21) (k := 3) (v := (v3 + (1 : Int32))) (lv' := [(3, .int (v3 + (1 : Int32))), (0, .ref (gad G 1)), (1, .int v1), (2, .ref (gad G 9))]) C dX2_addNamedBy_21 rfl rfl (by decide) rfl ?_
      refine q_goto (pc := 24) (tgt := 2) C dX2_addNamedBy_24 (by decide) ?_
      refine q_lv (lv' := [(0, .ref (gad G 1)), (1, .int v1), (2, .ref (gad G 9)), (3, .int (v3 + (1 : Int32)))]) [1, 2, 3, 0] rfl ?_
      exact ih _ _ _ _ hm kk
set_option maxRecDepth 100000 in
theorem c_Gr_addNamedBy_9 {G : Gx} (hi : qinj (gad G)) {S : St} {a1 : Int32} {zS : St} (hm : m_Gr_addNamedBy 9 S a1 = some zS) : QMet G yX2_addNamedBy cX2_addNamedBy 4 none 1 22 [.ref (gad G 1), .int a1, .ref (gad G 9)] S none zS := by
  refine q_entry (by decide +kernel) rfl hi (Nat.le_of_ble_eq_true rfl) ?_
  intro X C
  refine q_lv (lv' := [(0, .ref (gad G 1)), (1, .int a1), (2, .ref (gad G 9))]) [0, 1, 2] rfl ?_
  unfold m_Gr_addNamedBy at hm
  refine q_iconst (pc := 0) (v := (0 : Int32)) C dX2_addNamedBy_0 (by decide) ?_
  refine q_istore_n (pc := 1) (lv' := [(3, .int (0 : Int32)), (0, .ref (gad G 1)), (1, .int a1), (2, .ref (gad G 9))]) C dX2_addNamedBy_1 rfl (by decide) rfl ?_
  refine q_lv (lv' := [(0, .ref (gad G 1)), (1, .int a1), (2, .ref (gad G 9)), (3, .int (0 : Int32))]) [1, 2, 3, 0] rfl ?_
  obtain ⟨S1, h1, hm⟩ := o1_some hm
  refine w_Gr_addNamedBy_9_L2 hi C 200 _ _ _ _ h1 ?_
  cases hm
  exact q_vret (pc := 27) C dX2_addNamedBy_27
set_option maxRecDepth 100000 in
theorem w_Gr_trace_9_L6 {G : Gx} (hi : qinj (gad G)) {X : Cx} (C : QC G X cX2_trace 4 RX2 2 45 none) {Q : State → Prop} : ∀ (n : Nat) (S : St) (v2 : Int32) (v3 : Int32) (zS : St), m_Gr_trace_L6 9 n S v2 v3 = some zS → QW G X 4 Q 33 [(0, .ref (gad G 1)), (1, .ref (gad G 9))] [] zS → QW G X 4 Q 6 [(0, .ref (gad G 1)), (1, .ref (gad G 9)), (2, .int v2), (3, .int v3)] [] S := by
  intro n
  induction n with
  | zero =>
    intro S v2 v3 zS hm kk
    rw [m_Gr_trace_L6] at hm
    cases hm
  | succ n ih =>
    intro S v2 v3 zS hm kk
    rw [m_Gr_trace_L6] at hm
    refine q_iload_n (pc := 6) C dX2_trace_6 rfl 3 rfl ?_
    refine q_bipush (pc := 7) (v := (6 : Int32)) C dX2_trace_7 (by decide) ?_
    refine q_icmp_ge (pc := 9) (tgt := 33) C dX2_trace_9 (by decide) (fun c1 => ?_) (fun c1 => ?_)
    · replace hm := hm_t c1 hm
      cases hm
      refine q_lv (lv' := [(0, .ref (gad G 1)), (1, .ref (gad G 9))]) [0, 1] rfl ?_
      exact kk
    · replace hm := hm_f c1 hm
      refine q_iload_n (pc := 12) C dX2_trace_12 rfl 3 rfl ?_
      refine q_iload_n (pc := 13) C dX2_trace_13 rfl 2 rfl ?_
      refine q_icmp_eq (pc := 14) (tgt := 27) C dX2_trace_14 (by decide) (fun c2 => ?_) (fun c2 => ?_)
      · replace hm := hm_t c2 hm
        refine q_iinc (pc := 27) (k := 3) (v := (v3 + (1 : Int32))) (lv' := [(3, .int (v3 + (1 : Int32))), (0, .ref (gad G 1)), (1, .ref (gad G 9)), (2, .int v2)]) C dX2_trace_27 rfl rfl (by decide) rfl ?_
        refine q_goto (pc := 30) (tgt := 6) C dX2_trace_30 (by decide) ?_
        refine q_lv (lv' := [(0, .ref (gad G 1)), (1, .ref (gad G 9)), (2, .int v2), (3, .int (v3 + (1 : Int32)))]) [1, 2, 3, 0] rfl ?_
        exact ih _ _ _ _ hm kk
      · replace hm := hm_f c2 hm
        refine q_aload_n (pc := 17) C dX2_trace_17 rfl 1 rfl ?_
        refine q_aload_n (pc := 18) C dX2_trace_18 rfl 0 rfl ?_
        refine q_get (pc := 19) (T := TX2) (v := .ref (gad G 4)) C (by decide) (ce_1 _ _ _) (ci := 2) rfl inlX2 (j := 2) (by decide) rfl tw_39 (Or.inl rfl) dX2_trace_19 ?_
        refine q_iload_n (pc := 22) C dX2_trace_22 rfl 3 rfl ?_
        obtain ⟨b1, hm⟩ := oi_some hm
        refine q_iald (pc := 23) C (by decide) (ce_4 _ _ _) (ty_4 _) b1 dX2_trace_23 ?_
        obtain ⟨S1, h1, hm⟩ := o1_some hm
        refine q_callV (pc := 24) (k := 9) (As := [.int (S 4 v3.toNatClampNeg)]) (rest := []) (T := TX5) C (c_Row_add_9 hi h1) (by decide) (ce_9 _ _ _) (ci := 5) rfl tw_266 tw_267 tw_268 tw_43 tw_269 (nA := 1) (by decide +kernel) rfl (by decide) (Nat.le_of_ble_eq_true rfl) rfl dX2_trace_24 ?_
        refine q_iinc (pc := 27) (k := 3) (v := (v3 + (1 : Int32))) (lv' := [(3, .int (v3 + (1 : Int32))), (0, .ref (gad G 1)), (1, .ref (gad G 9)), (2, .int v2)]) C dX2_trace_27 rfl rfl (by decide) rfl ?_
        refine q_goto (pc := 30) (tgt := 6) C dX2_trace_30 (by decide) ?_
        refine q_lv (lv' := [(0, .ref (gad G 1)), (1, .ref (gad G 9)), (2, .int v2), (3, .int (v3 + (1 : Int32)))]) [1, 2, 3, 0] rfl ?_
        exact ih _ _ _ _ hm kk
set_option maxRecDepth 100000 in
theorem w_Gr_trace_9_L35 {G : Gx} (hi : qinj (gad G)) {X : Cx} (C : QC G X cX2_trace 4 RX2 2 45 none) {Q : State → Prop} : ∀ (n : Nat) (S : St) (v3 : Int32) (zS : St), m_Gr_trace_L35 9 n S v3 = some zS → QW G X 4 Q 65 [] [] zS → QW G X 4 Q 35 [(0, .ref (gad G 1)), (1, .ref (gad G 9)), (3, .int v3)] [] S := by
  intro n
  induction n with
  | zero =>
    intro S v3 zS hm kk
    rw [m_Gr_trace_L35] at hm
    cases hm
  | succ n ih =>
    intro S v3 zS hm kk
    rw [m_Gr_trace_L35] at hm
    refine q_iload_n (pc := 35) C dX2_trace_35 rfl 2 rfl ?_
    refine q_aload_n (pc := 36) C dX2_trace_36 rfl 1 rfl ?_
    refine q_get (pc := 37) (T := TX5) (v := .int (S 9 2)) C (by decide) (ce_9 _ _ _) (ci := 5) rfl inlX5 (j := 2) (by decide) rfl tw_265 (Or.inl rfl) dX2_trace_37 ?_
    refine q_icmp_ge (pc := 40) (tgt := 65) C dX2_trace_40 (by decide) (fun c1 => ?_) (fun c1 => ?_)
    · replace hm := hm_t c1 hm
      cases hm
      refine q_lv (lv' := []) [] rfl ?_
      exact kk
    · replace hm := hm_f c1 hm
      refine q_iload_n (pc := 43) C dX2_trace_43 rfl 2 rfl ?_
      refine q_bipush (pc := 44) (v := (80 : Int32)) C dX2_trace_44 (by decide) ?_
      refine q_icmp_ge (pc := 46) (tgt := 65) C dX2_trace_46 (by decide) (fun c2 => ?_) (fun c2 => ?_)
      · replace hm := hm_t c2 hm
        cases hm
        refine q_lv (lv' := []) [] rfl ?_
        exact kk
      · replace hm := hm_f c2 hm
        refine q_aload_n (pc := 49) C dX2_trace_49 rfl 0 rfl ?_
        refine q_aload_n (pc := 50) C dX2_trace_50 rfl 1 rfl ?_
        refine q_iload_n (pc := 51) C dX2_trace_51 rfl 2 rfl ?_
        obtain ⟨r1, h1, hm⟩ := o1_some hm
        refine q_callV (pc := 52) (k := 9) (As := [.int v3]) (rest := [.ref (gad G 1)]) (T := TX5) C (c_Row_get_9 hi h1) (by decide) (ce_9 _ _ _) (ci := 5) rfl tw_270 tw_271 tw_272 tw_43 tw_273 (nA := 1) (by decide +kernel) rfl (by decide) (Nat.le_of_ble_eq_true rfl) rfl dX2_trace_52 ?_
        refine q_aload_n (pc := 55) C dX2_trace_55 rfl 1 rfl ?_
        obtain ⟨S1, h2, hm⟩ := o1_some hm
        refine q_callV (pc := 56) (k := 1) (As := [.int r1, .ref (gad G 9)]) (rest := []) (T := TX2) C (c_Gr_addNamedBy_9 hi h2) (by decide) (ce_1 _ _ _) (ci := 2) rfl tw_274 tw_275 tw_276 tw_13 tw_277 (nA := 2) (by decide +kernel) rfl (by decide) (Nat.le_of_ble_eq_true rfl) rfl dX2_trace_56 ?_
        refine q_iinc (pc := 59) (k := 2) (v := (v3 + (1 : Int32))) (lv' := [(3, .int (v3 + (1 : Int32))), (0, .ref (gad G 1)), (1, .ref (gad G 9))]) C dX2_trace_59 rfl rfl (by decide) rfl ?_
        refine q_goto (pc := 62) (tgt := 35) C dX2_trace_62 (by decide) ?_
        refine q_lv (lv' := [(0, .ref (gad G 1)), (1, .ref (gad G 9)), (3, .int (v3 + (1 : Int32)))]) [1, 2, 0] rfl ?_
        exact ih _ _ _ hm kk
set_option maxRecDepth 100000 in
theorem c_Gr_trace_9 {G : Gx} (hi : qinj (gad G)) {S : St} {a2 : Int32} {zS : St} (hm : m_Gr_trace 9 S a2 = some zS) : QMet G yX2_trace cX2_trace 4 none 2 45 [.ref (gad G 1), .ref (gad G 9), .int a2] S none zS := by
  refine q_entry (by decide +kernel) rfl hi (Nat.le_of_ble_eq_true rfl) ?_
  intro X C
  refine q_lv (lv' := [(0, .ref (gad G 1)), (1, .ref (gad G 9)), (2, .int a2)]) [0, 1, 2] rfl ?_
  unfold m_Gr_trace at hm
  refine q_aload_n (pc := 0) C dX2_trace_0 rfl 1 rfl ?_
  obtain ⟨S1, h1, hm⟩ := o1_some hm
  refine q_callV (pc := 1) (k := 9) (As := []) (rest := []) (T := TX5) C (c_Row_empty_9 hi h1) (by decide) (ce_9 _ _ _) (ci := 5) rfl tw_123 tw_124 tw_125 tw_43 tw_126 (nA := 0) (by decide +kernel) rfl (by decide) (Nat.le_of_ble_eq_true rfl) rfl dX2_trace_1 ?_
  refine q_iconst (pc := 4) (v := (0 : Int32)) C dX2_trace_4 (by decide) ?_
  refine q_istore_n (pc := 5) (lv' := [(3, .int (0 : Int32)), (0, .ref (gad G 1)), (1, .ref (gad G 9)), (2, .int a2)]) C dX2_trace_5 rfl (by decide) rfl ?_
  refine q_lv (lv' := [(0, .ref (gad G 1)), (1, .ref (gad G 9)), (2, .int a2), (3, .int (0 : Int32))]) [1, 2, 3, 0] rfl ?_
  obtain ⟨S2, h2, hm⟩ := o1_some hm
  refine w_Gr_trace_9_L6 hi C 200 _ _ _ _ h2 ?_
  refine q_iconst (pc := 33) (v := (0 : Int32)) C dX2_trace_33 (by decide) ?_
  refine q_istore_n (pc := 34) (lv' := [(3, .int (0 : Int32)), (0, .ref (gad G 1)), (1, .ref (gad G 9))]) C dX2_trace_34 rfl (by decide) rfl ?_
  refine q_lv (lv' := [(0, .ref (gad G 1)), (1, .ref (gad G 9)), (3, .int (0 : Int32))]) [1, 2, 0] rfl ?_
  obtain ⟨S3, h3, hm⟩ := o1_some hm
  refine w_Gr_trace_9_L35 hi C 200 _ _ _ h3 ?_
  cases hm
  exact q_vret (pc := 65) C dX2_trace_65
set_option maxRecDepth 100000 in
theorem c_Gr_countLostWithout {G : Gx} (hi : qinj (gad G)) {S : St} {a1 : Int32} {zr : Int32} {zS : St} (hm : m_Gr_countLostWithout S a1 = some (zr, zS)) : QMet G yX2_countLostWithout cX2_countLostWithout 2 (some .int) 3 68 [.ref (gad G 1), .int a1] S (some (.int zr)) zS := by
  refine q_entry (by decide +kernel) rfl hi (Nat.le_of_ble_eq_true rfl) ?_
  intro X C
  refine q_lv (lv' := [(0, .ref (gad G 1)), (1, .int a1)]) [0, 1] rfl ?_
  unfold m_Gr_countLostWithout at hm
  refine q_aload_n (pc := 0) C dX2_countLostWithout_0 rfl 0 rfl ?_
  refine q_aload_n (pc := 1) C dX2_countLostWithout_1 rfl 0 rfl ?_
  refine q_get (pc := 2) (T := TX2) (v := .ref (gad G 9)) C (by decide) (ce_1 _ _ _) (ci := 2) rfl inlX2 (j := 5) (by decide) rfl tw_45 (Or.inl rfl) dX2_countLostWithout_2 ?_
  refine q_iload_n (pc := 5) C dX2_countLostWithout_5 rfl 1 rfl ?_
  obtain ⟨S1, h1, hm⟩ := o1_some hm
  refine q_callV (pc := 6) (k := 1) (As := [.ref (gad G 9), .int a1]) (rest := []) (T := TX2) C (c_Gr_trace_9 hi h1) (by decide) (ce_1 _ _ _) (ci := 2) rfl tw_598 tw_262 tw_263 tw_13 tw_264 (nA := 2) (by decide +kernel) rfl (by decide) (Nat.le_of_ble_eq_true rfl) rfl dX2_countLostWithout_6 ?_
  refine q_aload_n (pc := 9) C dX2_countLostWithout_9 rfl 0 rfl ?_
  refine q_get (pc := 10) (T := TX2) (v := .ref (gad G 6)) C (by decide) (ce_1 _ _ _) (ci := 2) rfl inlX2 (j := 4) (by decide) rfl tw_44 (Or.inl rfl) dX2_countLostWithout_10 ?_
  refine q_get (pc := 13) (T := TX5) (v := .int (S1 6 2)) C (by decide) (ce_6 _ _ _) (ci := 5) rfl inlX5 (j := 2) (by decide) rfl tw_265 (Or.inl rfl) dX2_countLostWithout_13 ?_
  refine q_aload_n (pc := 16) C dX2_countLostWithout_16 rfl 0 rfl ?_
  refine q_get (pc := 17) (T := TX2) (v := .ref (gad G 9)) C (by decide) (ce_1 _ _ _) (ci := 2) rfl inlX2 (j := 5) (by decide) rfl tw_45 (Or.inl rfl) dX2_countLostWithout_17 ?_
  refine q_get (pc := 20) (T := TX5) (v := .int (S1 9 2)) C (by decide) (ce_9 _ _ _) (ci := 5) rfl inlX5 (j := 2) (by decide) rfl tw_265 (Or.inl rfl) dX2_countLostWithout_20 ?_
  refine q_isub (pc := 23) C dX2_countLostWithout_23 ?_
  cases hm
  exact q_iret (pc := 24) C dX2_countLostWithout_24
set_option maxRecDepth 100000 in
theorem c_Te_wouldLose {G : Gx} (hi : qinj (gad G)) {S : St} {a1 : Int32} {zr : Int32} {zS : St} (hm : m_Te_wouldLose S a1 = some (zr, zS)) : QMet G yX8_wouldLose cX8_wouldLose 2 (some .int) 4 89 [.ref (gad G 0), .int a1] S (some (.int zr)) zS := by
  refine q_entry (by decide +kernel) rfl hi (Nat.le_of_ble_eq_true rfl) ?_
  intro X C
  refine q_lv (lv' := [(0, .ref (gad G 0)), (1, .int a1)]) [0, 1] rfl ?_
  unfold m_Te_wouldLose at hm
  refine q_iload_n (pc := 0) C dX8_wouldLose_0 rfl 1 rfl ?_
  obtain ⟨u1, h1, hm⟩ := o1_some hm
  refine q_callS (pc := 1) (As := [.int a1]) (rest := []) C (c_Te_checkRoot hi h1) tw_200 tw_201 tw_2 tw_202 (nA := 1) (by decide +kernel) rfl (by decide) (Nat.le_of_ble_eq_true rfl) rfl dX8_wouldLose_1 ?_
  refine q_aload_n (pc := 4) C dX8_wouldLose_4 rfl 0 rfl ?_
  refine q_get (pc := 5) (T := TX8) (v := .ref (gad G 1)) C (by decide) (ce_0 _ _ _) (ci := 6) rfl inlX8 (j := 0) (by decide) rfl tw_27 (Or.inl rfl) dX8_wouldLose_5 ?_
  refine q_iload_n (pc := 8) C dX8_wouldLose_8 rfl 1 rfl ?_
  obtain ⟨r1, S1, h2, hm⟩ := ob_some hm
  refine q_callV (pc := 9) (k := 1) (As := [.int a1]) (rest := []) (T := TX2) C (c_Gr_countLostWithout hi h2) (by decide) (ce_1 _ _ _) (ci := 2) rfl tw_864 tw_865 tw_866 tw_13 tw_867 (nA := 1) (by decide +kernel) rfl (by decide) (Nat.le_of_ble_eq_true rfl) rfl dX8_wouldLose_9 ?_
  cases hm
  exact q_iret (pc := 12) C dX8_wouldLose_12
