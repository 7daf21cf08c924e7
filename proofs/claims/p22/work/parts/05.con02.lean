set_option maxRecDepth 100000 in
theorem c_St_learnNaming_Cop_12 {G : Gx} (hi : qinj (gad G)) {S : St} {a1 : Int32} {a2 : Int32} {a3 : Int32} {zu : Unit} (hm : m_St_learnNaming_Cop S a1 a2 a3 = some zu) : QMet G yX7_learnNaming cX7_learnNaming 4 none 0 0 [.ref (gad G 12), .int a1, .int a2, .int a3] S none S := by
  refine q_entry (by decide +kernel) rfl hi (Nat.le_of_ble_eq_true rfl) ?_
  intro X C
  refine q_lv (lv' := [(0, .ref (gad G 12)), (1, .int a1), (2, .int a2), (3, .int a3)]) [0, 1, 2, 3] rfl ?_
  unfold m_St_learnNaming_Cop at hm
  cases hm
  exact q_vret (pc := 0) C dX7_learnNaming_0
set_option maxRecDepth 100000 in
theorem c_Te_tellStores {G : Gx} (hi : qinj (gad G)) {S : St} {a1 : Int32} {a2 : Int32} {a3 : Int32} {zS : St} (hm : m_Te_tellStores S a1 a2 a3 = some zS) : QMet G yX8_tellStores cX8_tellStores 5 none 4 89 [.ref (gad G 0), .int a1, .int a2, .int a3] S none zS := by
  refine q_entry (by decide +kernel) rfl hi (Nat.le_of_ble_eq_true rfl) ?_
  intro X C
  refine q_lv (lv' := [(0, .ref (gad G 0)), (1, .int a1), (2, .int a2), (3, .int a3)]) [0, 1, 2, 3] rfl ?_
  unfold m_Te_tellStores at hm
  refine q_iconst (pc := 0) (v := (0 : Int32)) C dX8_tellStores_0 (by decide) ?_
  refine q_istore (pc := 1) (lv' := [(4, .int (0 : Int32)), (0, .ref (gad G 0)), (1, .int a1), (2, .int a2), (3, .int a3)]) C dX8_tellStores_1 (by decide) rfl ?_
  refine q_iload (pc := 3) C dX8_tellStores_3 0 rfl ?_
  refine q_iconst (pc := 5) (v := (4 : Int32)) C dX8_tellStores_5 (by decide) ?_
  refine q_icmp_ge (pc := 6) (tgt := 41) C dX8_tellStores_6 (by decide) (fun c => absurd c (by decide)) (fun _ => ?_)
  refine q_aload_n (pc := 9) C dX8_tellStores_9 rfl 1 rfl ?_
  refine q_get (pc := 10) (T := TX8) (v := .ref (gad G 58)) C (by decide) (ce_0 _ _ _) (ci := 6) rfl inlX8 (j := 4) (by decide) rfl tw_31 (Or.inl rfl) dX8_tellStores_10 ?_
  refine q_iload (pc := 13) C dX8_tellStores_13 0 rfl ?_
  refine q_aald (pc := 15) (k := 12) (n := 0) C (by decide) (by decide) rfl dX8_tellStores_15 ?_
  refine q_get (pc := 16) (T := TX0) (v := .int (S 12 5)) C (by decide) (ce_12 _ _ _) (ci := 0) rfl inlX0 (j := 5) (by decide) rfl tw_199 (Or.inl rfl) dX8_tellStores_16 ?_
  refine q_if_ne (pc := 19) (tgt := 35) C dX8_tellStores_19 (by decide) (fun c1 => ?_) (fun c1 => ?_)
  · replace hm := hm_f c1 hm
    refine q_iinc (pc := 35) (k := 0) (v := (1 : Int32)) (lv' := [(4, .int (1 : Int32)), (0, .ref (gad G 0)), (1, .int a1), (2, .int a2), (3, .int a3)]) C dX8_tellStores_35 rfl (by decide) (by decide) rfl ?_
    refine q_goto (pc := 38) (tgt := 3) C dX8_tellStores_38 (by decide) ?_
    refine q_iload (pc := 3) C dX8_tellStores_3 0 rfl ?_
    refine q_iconst (pc := 5) (v := (4 : Int32)) C dX8_tellStores_5 (by decide) ?_
    refine q_icmp_ge (pc := 6) (tgt := 41) C dX8_tellStores_6 (by decide) (fun c => absurd c (by decide)) (fun _ => ?_)
    refine q_aload_n (pc := 9) C dX8_tellStores_9 rfl 1 rfl ?_
    refine q_get (pc := 10) (T := TX8) (v := .ref (gad G 58)) C (by decide) (ce_0 _ _ _) (ci := 6) rfl inlX8 (j := 4) (by decide) rfl tw_31 (Or.inl rfl) dX8_tellStores_10 ?_
    refine q_iload (pc := 13) C dX8_tellStores_13 0 rfl ?_
    refine q_aald (pc := 15) (k := 18) (n := 1) C (by decide) (by decide) rfl dX8_tellStores_15 ?_
    refine q_get (pc := 16) (T := TX4) (v := .int (S 18 5)) C (by decide) (ce_18 _ _ _) (ci := 4) rfl inlX4 (j := 5) (by decide) rfl tw_199 (Or.inl rfl) dX8_tellStores_16 ?_
    refine q_if_ne (pc := 19) (tgt := 35) C dX8_tellStores_19 (by decide) (fun c2 => ?_) (fun c2 => ?_)
    · replace hm := hm_f c2 hm
      refine q_iinc (pc := 35) (k := 0) (v := (2 : Int32)) (lv' := [(4, .int (2 : Int32)), (0, .ref (gad G 0)), (1, .int a1), (2, .int a2), (3, .int a3)]) C dX8_tellStores_35 rfl (by decide) (by decide) rfl ?_
      refine q_goto (pc := 38) (tgt := 3) C dX8_tellStores_38 (by decide) ?_
      refine q_iload (pc := 3) C dX8_tellStores_3 0 rfl ?_
      refine q_iconst (pc := 5) (v := (4 : Int32)) C dX8_tellStores_5 (by decide) ?_
      refine q_icmp_ge (pc := 6) (tgt := 41) C dX8_tellStores_6 (by decide) (fun c => absurd c (by decide)) (fun _ => ?_)
      refine q_aload_n (pc := 9) C dX8_tellStores_9 rfl 1 rfl ?_
      refine q_get (pc := 10) (T := TX8) (v := .ref (gad G 58)) C (by decide) (ce_0 _ _ _) (ci := 6) rfl inlX8 (j := 4) (by decide) rfl tw_31 (Or.inl rfl) dX8_tellStores_10 ?_
      refine q_iload (pc := 13) C dX8_tellStores_13 0 rfl ?_
      refine q_aald (pc := 15) (k := 31) (n := 2) C (by decide) (by decide) rfl dX8_tellStores_15 ?_
      refine q_get (pc := 16) (T := TX3) (v := .int (S 31 6)) C (by decide) (ce_31 _ _ _) (ci := 3) rfl inlX3 (j := 6) (by decide) rfl tw_199 (Or.inl rfl) dX8_tellStores_16 ?_
      refine q_if_ne (pc := 19) (tgt := 35) C dX8_tellStores_19 (by decide) (fun c3 => ?_) (fun c3 => ?_)
      · replace hm := hm_f c3 hm
        refine q_iinc (pc := 35) (k := 0) (v := (3 : Int32)) (lv' := [(4, .int (3 : Int32)), (0, .ref (gad G 0)), (1, .int a1), (2, .int a2), (3, .int a3)]) C dX8_tellStores_35 rfl (by decide) (by decide) rfl ?_
        refine q_goto (pc := 38) (tgt := 3) C dX8_tellStores_38 (by decide) ?_
        refine q_iload (pc := 3) C dX8_tellStores_3 0 rfl ?_
        refine q_iconst (pc := 5) (v := (4 : Int32)) C dX8_tellStores_5 (by decide) ?_
        refine q_icmp_ge (pc := 6) (tgt := 41) C dX8_tellStores_6 (by decide) (fun c => absurd c (by decide)) (fun _ => ?_)
        refine q_aload_n (pc := 9) C dX8_tellStores_9 rfl 1 rfl ?_
        refine q_get (pc := 10) (T := TX8) (v := .ref (gad G 58)) C (by decide) (ce_0 _ _ _) (ci := 6) rfl inlX8 (j := 4) (by decide) rfl tw_31 (Or.inl rfl) dX8_tellStores_10 ?_
        refine q_iload (pc := 13) C dX8_tellStores_13 0 rfl ?_
        refine q_aald (pc := 15) (k := 42) (n := 3) C (by decide) (by decide) rfl dX8_tellStores_15 ?_
        refine q_get (pc := 16) (T := TX1) (v := .int (S 42 6)) C (by decide) (ce_42 _ _ _) (ci := 1) rfl inlX1 (j := 6) (by decide) rfl tw_199 (Or.inl rfl) dX8_tellStores_16 ?_
        refine q_if_ne (pc := 19) (tgt := 35) C dX8_tellStores_19 (by decide) (fun c4 => ?_) (fun c4 => ?_)
        · replace hm := hm_f c4 hm
          refine q_iinc (pc := 35) (k := 0) (v := (4 : Int32)) (lv' := [(4, .int (4 : Int32)), (0, .ref (gad G 0)), (1, .int a1), (2, .int a2), (3, .int a3)]) C dX8_tellStores_35 rfl (by decide) (by decide) rfl ?_
          refine q_goto (pc := 38) (tgt := 3) C dX8_tellStores_38 (by decide) ?_
          refine q_iload (pc := 3) C dX8_tellStores_3 0 rfl ?_
          refine q_iconst (pc := 5) (v := (4 : Int32)) C dX8_tellStores_5 (by decide) ?_
          refine q_icmp_ge (pc := 6) (tgt := 41) C dX8_tellStores_6 (by decide) (fun _ => ?_) (fun c => absurd c (by decide))
          cases hm
          exact q_vret (pc := 41) C dX8_tellStores_41
        · replace hm := hm_t c4 hm
          refine q_aload_n (pc := 22) C dX8_tellStores_22 rfl 1 rfl ?_
          refine q_get (pc := 23) (T := TX8) (v := .ref (gad G 58)) C (by decide) (ce_0 _ _ _) (ci := 6) rfl inlX8 (j := 4) (by decide) rfl tw_31 (Or.inl rfl) dX8_tellStores_23 ?_
          refine q_iload (pc := 26) C dX8_tellStores_26 0 rfl ?_
          refine q_aald (pc := 28) (k := 42) (n := 3) C (by decide) (by decide) rfl dX8_tellStores_28 ?_
          refine q_iload_n (pc := 29) C dX8_tellStores_29 rfl 2 rfl ?_
          refine q_iload_n (pc := 30) C dX8_tellStores_30 rfl 3 rfl ?_
          refine q_iload_n (pc := 31) C dX8_tellStores_31 rfl 4 rfl ?_
          obtain ⟨S1, h1, hm⟩ := o1_some hm
          refine q_callU (pc := 32) (k := 42) (As := [.int a1, .int a2, .int a3]) (rest := []) (T := TX1) (owner := "Tessera$Store") (x := ⟨"Tessera$Store", "learnNaming", "(III)V"⟩) C (c_Cou_learnNaming hi h1) (by decide) (ce_42 _ _ _) (ci := 1) rfl (Or.inr (Or.inr ⟨_, _, _, tw_617, tw_616⟩)) tw_612 tw_613 tw_619 tw_618 tw_22 tw_620 (nA := 3) (by decide +kernel) rfl (by decide) (Nat.le_of_ble_eq_true rfl) rfl dX8_tellStores_32 ?_
          refine q_iinc (pc := 35) (k := 0) (v := (4 : Int32)) (lv' := [(4, .int (4 : Int32)), (0, .ref (gad G 0)), (1, .int a1), (2, .int a2), (3, .int a3)]) C dX8_tellStores_35 rfl (by decide) (by decide) rfl ?_
          refine q_goto (pc := 38) (tgt := 3) C dX8_tellStores_38 (by decide) ?_
          refine q_iload (pc := 3) C dX8_tellStores_3 0 rfl ?_
          refine q_iconst (pc := 5) (v := (4 : Int32)) C dX8_tellStores_5 (by decide) ?_
          refine q_icmp_ge (pc := 6) (tgt := 41) C dX8_tellStores_6 (by decide) (fun _ => ?_) (fun c => absurd c (by decide))
          cases hm
          exact q_vret (pc := 41) C dX8_tellStores_41
      · replace hm := hm_t c3 hm
        refine q_aload_n (pc := 22) C dX8_tellStores_22 rfl 1 rfl ?_
        refine q_get (pc := 23) (T := TX8) (v := .ref (gad G 58)) C (by decide) (ce_0 _ _ _) (ci := 6) rfl inlX8 (j := 4) (by decide) rfl tw_31 (Or.inl rfl) dX8_tellStores_23 ?_
        refine q_iload (pc := 26) C dX8_tellStores_26 0 rfl ?_
        refine q_aald (pc := 28) (k := 31) (n := 2) C (by decide) (by decide) rfl dX8_tellStores_28 ?_
        refine q_iload_n (pc := 29) C dX8_tellStores_29 rfl 2 rfl ?_
        refine q_iload_n (pc := 30) C dX8_tellStores_30 rfl 3 rfl ?_
        refine q_iload_n (pc := 31) C dX8_tellStores_31 rfl 4 rfl ?_
        obtain ⟨S2, h2, hm⟩ := o1_some hm
        refine q_callU (pc := 32) (k := 31) (As := [.int a1, .int a2, .int a3]) (rest := []) (T := TX3) (owner := "Tessera$Store") (x := ⟨"Tessera$Store", "learnNaming", "(III)V"⟩) C (c_Mar_learnNaming hi h2) (by decide) (ce_31 _ _ _) (ci := 3) rfl (Or.inr (Or.inr ⟨_, _, _, tw_617, tw_616⟩)) tw_612 tw_613 tw_630 tw_629 tw_19 tw_631 (nA := 3) (by decide +kernel) rfl (by decide) (Nat.le_of_ble_eq_true rfl) rfl dX8_tellStores_32 ?_
        refine q_iinc (pc := 35) (k := 0) (v := (3 : Int32)) (lv' := [(4, .int (3 : Int32)), (0, .ref (gad G 0)), (1, .int a1), (2, .int a2), (3, .int a3)]) C dX8_tellStores_35 rfl (by decide) (by decide) rfl ?_
        refine q_goto (pc := 38) (tgt := 3) C dX8_tellStores_38 (by decide) ?_
        refine q_iload (pc := 3) C dX8_tellStores_3 0 rfl ?_
        refine q_iconst (pc := 5) (v := (4 : Int32)) C dX8_tellStores_5 (by decide) ?_
        refine q_icmp_ge (pc := 6) (tgt := 41) C dX8_tellStores_6 (by decide) (fun c => absurd c (by decide)) (fun _ => ?_)
        refine q_aload_n (pc := 9) C dX8_tellStores_9 rfl 1 rfl ?_
        refine q_get (pc := 10) (T := TX8) (v := .ref (gad G 58)) C (by decide) (ce_0 _ _ _) (ci := 6) rfl inlX8 (j := 4) (by decide) rfl tw_31 (Or.inl rfl) dX8_tellStores_10 ?_
        refine q_iload (pc := 13) C dX8_tellStores_13 0 rfl ?_
        refine q_aald (pc := 15) (k := 42) (n := 3) C (by decide) (by decide) rfl dX8_tellStores_15 ?_
        refine q_get (pc := 16) (T := TX1) (v := .int (S2 42 6)) C (by decide) (ce_42 _ _ _) (ci := 1) rfl inlX1 (j := 6) (by decide) rfl tw_199 (Or.inl rfl) dX8_tellStores_16 ?_
        refine q_if_ne (pc := 19) (tgt := 35) C dX8_tellStores_19 (by decide) (fun c5 => ?_) (fun c5 => ?_)
        · replace hm := hm_f c5 hm
          refine q_iinc (pc := 35) (k := 0) (v := (4 : Int32)) (lv' := [(4, .int (4 : Int32)), (0, .ref (gad G 0)), (1, .int a1), (2, .int a2), (3, .int a3)]) C dX8_tellStores_35 rfl (by decide) (by decide) rfl ?_
          refine q_goto (pc := 38) (tgt := 3) C dX8_tellStores_38 (by decide) ?_
          refine q_iload (pc := 3) C dX8_tellStores_3 0 rfl ?_
          refine q_iconst (pc := 5) (v := (4 : Int32)) C dX8_tellStores_5 (by decide) ?_
          refine q_icmp_ge (pc := 6) (tgt := 41) C dX8_tellStores_6 (by decide) (fun _ => ?_) (fun c => absurd c (by decide))
          cases hm
          exact q_vret (pc := 41) C dX8_tellStores_41
        · replace hm := hm_t c5 hm
          refine q_aload_n (pc := 22) C dX8_tellStores_22 rfl 1 rfl ?_
          refine q_get (pc := 23) (T := TX8) (v := .ref (gad G 58)) C (by decide) (ce_0 _ _ _) (ci := 6) rfl inlX8 (j := 4) (by decide) rfl tw_31 (Or.inl rfl) dX8_tellStores_23 ?_
          refine q_iload (pc := 26) C dX8_tellStores_26 0 rfl ?_
          refine q_aald (pc := 28) (k := 42) (n := 3) C (by decide) (by decide) rfl dX8_tellStores_28 ?_
          refine q_iload_n (pc := 29) C dX8_tellStores_29 rfl 2 rfl ?_
          refine q_iload_n (pc := 30) C dX8_tellStores_30 rfl 3 rfl ?_
          refine q_iload_n (pc := 31) C dX8_tellStores_31 rfl 4 rfl ?_
          obtain ⟨S3, h3, hm⟩ := o1_some hm
          refine q_callU (pc := 32) (k := 42) (As := [.int a1, .int a2, .int a3]) (rest := []) (T := TX1) (owner := "Tessera$Store") (x := ⟨"Tessera$Store", "learnNaming", "(III)V"⟩) C (c_Cou_learnNaming hi h3) (by decide) (ce_42 _ _ _) (ci := 1) rfl (Or.inr (Or.inr ⟨_, _, _, tw_617, tw_616⟩)) tw_612 tw_613 tw_619 tw_618 tw_22 tw_620 (nA := 3) (by decide +kernel) rfl (by decide) (Nat.le_of_ble_eq_true rfl) rfl dX8_tellStores_32 ?_
          refine q_iinc (pc := 35) (k := 0) (v := (4 : Int32)) (lv' := [(4, .int (4 : Int32)), (0, .ref (gad G 0)), (1, .int a1), (2, .int a2), (3, .int a3)]) C dX8_tellStores_35 rfl (by decide) (by decide) rfl ?_
          refine q_goto (pc := 38) (tgt := 3) C dX8_tellStores_38 (by decide) ?_
          refine q_iload (pc := 3) C dX8_tellStores_3 0 rfl ?_
          refine q_iconst (pc := 5) (v := (4 : Int32)) C dX8_tellStores_5 (by decide) ?_
          refine q_icmp_ge (pc := 6) (tgt := 41) C dX8_tellStores_6 (by decide) (fun _ => ?_) (fun c => absurd c (by decide))
          cases hm
          exact q_vret (pc := 41) C dX8_tellStores_41
    · replace hm := hm_t c2 hm
      refine q_aload_n (pc := 22) C dX8_tellStores_22 rfl 1 rfl ?_
      refine q_get (pc := 23) (T := TX8) (v := .ref (gad G 58)) C (by decide) (ce_0 _ _ _) (ci := 6) rfl inlX8 (j := 4) (by decide) rfl tw_31 (Or.inl rfl) dX8_tellStores_23 ?_
      refine q_iload (pc := 26) C dX8_tellStores_26 0 rfl ?_
      refine q_aald (pc := 28) (k := 18) (n := 1) C (by decide) (by decide) rfl dX8_tellStores_28 ?_
      refine q_iload_n (pc := 29) C dX8_tellStores_29 rfl 2 rfl ?_
      refine q_iload_n (pc := 30) C dX8_tellStores_30 rfl 3 rfl ?_
      refine q_iload_n (pc := 31) C dX8_tellStores_31 rfl 4 rfl ?_
      obtain ⟨u1, h4, hm⟩ := o1_some hm
      refine q_callU (pc := 32) (k := 18) (As := [.int a1, .int a2, .int a3]) (rest := []) (T := TX4) (owner := "Tessera$Store") (x := ⟨"Tessera$Store", "learnNaming", "(III)V"⟩) C (c_St_learnNaming_Nur_18 hi h4) (by decide) (ce_18 _ _ _) (ci := 4) rfl (Or.inl rfl) tw_612 tw_613 tw_615 tw_632 tw_62 tw_616 (nA := 3) (by decide +kernel) rfl (by decide) (Nat.le_of_ble_eq_true rfl) rfl dX8_tellStores_32 ?_
      refine q_iinc (pc := 35) (k := 0) (v := (2 : Int32)) (lv' := [(4, .int (2 : Int32)), (0, .ref (gad G 0)), (1, .int a1), (2, .int a2), (3, .int a3)]) C dX8_tellStores_35 rfl (by decide) (by decide) rfl ?_
      refine q_goto (pc := 38) (tgt := 3) C dX8_tellStores_38 (by decide) ?_
      refine q_iload (pc := 3) C dX8_tellStores_3 0 rfl ?_
      refine q_iconst (pc := 5) (v := (4 : Int32)) C dX8_tellStores_5 (by decide) ?_
      refine q_icmp_ge (pc := 6) (tgt := 41) C dX8_tellStores_6 (by decide) (fun c => absurd c (by decide)) (fun _ => ?_)
      refine q_aload_n (pc := 9) C dX8_tellStores_9 rfl 1 rfl ?_
      refine q_get (pc := 10) (T := TX8) (v := .ref (gad G 58)) C (by decide) (ce_0 _ _ _) (ci := 6) rfl inlX8 (j := 4) (by decide) rfl tw_31 (Or.inl rfl) dX8_tellStores_10 ?_
      refine q_iload (pc := 13) C dX8_tellStores_13 0 rfl ?_
      refine q_aald (pc := 15) (k := 31) (n := 2) C (by decide) (by decide) rfl dX8_tellStores_15 ?_
      refine q_get (pc := 16) (T := TX3) (v := .int (S 31 6)) C (by decide) (ce_31 _ _ _) (ci := 3) rfl inlX3 (j := 6) (by decide) rfl tw_199 (Or.inl rfl) dX8_tellStores_16 ?_
      refine q_if_ne (pc := 19) (tgt := 35) C dX8_tellStores_19 (by decide) (fun c6 => ?_) (fun c6 => ?_)
      · replace hm := hm_f c6 hm
        refine q_iinc (pc := 35) (k := 0) (v := (3 : Int32)) (lv' := [(4, .int (3 : Int32)), (0, .ref (gad G 0)), (1, .int a1), (2, .int a2), (3, .int a3)]) C dX8_tellStores_35 rfl (by decide) (by decide) rfl ?_
        refine q_goto (pc := 38) (tgt := 3) C dX8_tellStores_38 (by decide) ?_
        refine q_iload (pc := 3) C dX8_tellStores_3 0 rfl ?_
        refine q_iconst (pc := 5) (v := (4 : Int32)) C dX8_tellStores_5 (by decide) ?_
        refine q_icmp_ge (pc := 6) (tgt := 41) C dX8_tellStores_6 (by decide) (fun c => absurd c (by decide)) (fun _ => ?_)
        refine q_aload_n (pc := 9) C dX8_tellStores_9 rfl 1 rfl ?_
        refine q_get (pc := 10) (T := TX8) (v := .ref (gad G 58)) C (by decide) (ce_0 _ _ _) (ci := 6) rfl inlX8 (j := 4) (by decide) rfl tw_31 (Or.inl rfl) dX8_tellStores_10 ?_
        refine q_iload (pc := 13) C dX8_tellStores_13 0 rfl ?_
        refine q_aald (pc := 15) (k := 42) (n := 3) C (by decide) (by decide) rfl dX8_tellStores_15 ?_
        refine q_get (pc := 16) (T := TX1) (v := .int (S 42 6)) C (by decide) (ce_42 _ _ _) (ci := 1) rfl inlX1 (j := 6) (by decide) rfl tw_199 (Or.inl rfl) dX8_tellStores_16 ?_
        refine q_if_ne (pc := 19) (tgt := 35) C dX8_tellStores_19 (by decide) (fun c7 => ?_) (fun c7 => ?_)
        · replace hm := hm_f c7 hm
          refine q_iinc (pc := 35) (k := 0) (v := (4 : Int32)) (lv' := [(4, .int (4 : Int32)), (0, .ref (gad G 0)), (1, .int a1), (2, .int a2), (3, .int a3)]) C dX8_tellStores_35 rfl (by decide) (by decide) rfl ?_
          refine q_goto (pc := 38) (tgt := 3) C dX8_tellStores_38 (by decide) ?_
          refine q_iload (pc := 3) C dX8_tellStores_3 0 rfl ?_
          refine q_iconst (pc := 5) (v := (4 : Int32)) C dX8_tellStores_5 (by decide) ?_
          refine q_icmp_ge (pc := 6) (tgt := 41) C dX8_tellStores_6 (by decide) (fun _ => ?_) (fun c => absurd c (by decide))
          cases hm
          exact q_vret (pc := 41) C dX8_tellStores_41
        · replace hm := hm_t c7 hm
          refine q_aload_n (pc := 22) C dX8_tellStores_22 rfl 1 rfl ?_
          refine q_get (pc := 23) (T := TX8) (v := .ref (gad G 58)) C (by decide) (ce_0 _ _ _) (ci := 6) rfl inlX8 (j := 4) (by decide) rfl tw_31 (Or.inl rfl) dX8_tellStores_23 ?_
          refine q_iload (pc := 26) C dX8_tellStores_26 0 rfl ?_
          refine q_aald (pc := 28) (k := 42) (n := 3) C (by decide) (by decide) rfl dX8_tellStores_28 ?_
          refine q_iload_n (pc := 29) C dX8_tellStores_29 rfl 2 rfl ?_
          refine q_iload_n (pc := 30) C dX8_tellStores_30 rfl 3 rfl ?_
          refine q_iload_n (pc := 31) C dX8_tellStores_31 rfl 4 rfl ?_
          obtain ⟨S4, h5, hm⟩ := o1_some hm
          refine q_callU (pc := 32) (k := 42) (As := [.int a1, .int a2, .int a3]) (rest := []) (T := TX1) (owner := "Tessera$Store") (x := ⟨"Tessera$Store", "learnNaming", "(III)V"⟩) C (c_Cou_learnNaming hi h5) (by decide) (ce_42 _ _ _) (ci := 1) rfl (Or.inr (Or.inr ⟨_, _, _, tw_617, tw_616⟩)) tw_612 tw_613 tw_619 tw_618 tw_22 tw_620 (nA := 3) (by decide +kernel) rfl (by decide) (Nat.le_of_ble_eq_true rfl) rfl dX8_tellStores_32 ?_
          refine q_iinc (pc := 35) (k := 0) (v := (4 : Int32)) (lv' := [(4, .int (4 : Int32)), (0, .ref (gad G 0)), (1, .int a1), (2, .int a2), (3, .int a3)]) C dX8_tellStores_35 rfl (by decide) (by decide) rfl ?_
          refine q_goto (pc := 38) (tgt := 3) C dX8_tellStores_38 (by decide) ?_
          refine q_iload (pc := 3) C dX8_tellStores_3 0 rfl ?_
          refine q_iconst (pc := 5) (v := (4 : Int32)) C dX8_tellStores_5 (by decide) ?_
          refine q_icmp_ge (pc := 6) (tgt := 41) C dX8_tellStores_6 (by decide) (fun _ => ?_) (fun c => absurd c (by decide))
          cases hm
          exact q_vret (pc := 41) C dX8_tellStores_41
      · replace hm := hm_t c6 hm
        refine q_aload_n (pc := 22) C dX8_tellStores_22 rfl 1 rfl ?_
        refine q_get (pc := 23) (T := TX8) (v := .ref (gad G 58)) C (by decide) (ce_0 _ _ _) (ci := 6) rfl inlX8 (j := 4) (by decide) rfl tw_31 (Or.inl rfl) dX8_tellStores_23 ?_
        refine q_iload (pc := 26) C dX8_tellStores_26 0 rfl ?_
        refine q_aald (pc := 28) (k := 31) (n := 2) C (by decide) (by decide) rfl dX8_tellStores_28 ?_
        refine q_iload_n (pc := 29) C dX8_tellStores_29 rfl 2 rfl ?_
        refine q_iload_n (pc := 30) C dX8_tellStores_30 rfl 3 rfl ?_
        refine q_iload_n (pc := 31) C dX8_tellStores_31 rfl 4 rfl ?_
        obtain ⟨S5, h6, hm⟩ := o1_some hm
        refine q_callU (pc := 32) (k := 31) (As := [.int a1, .int a2, .int a3]) (rest := []) (T := TX3) (owner := "Tessera$Store") (x := ⟨"Tessera$Store", "learnNaming", "(III)V"⟩) C (c_Mar_learnNaming hi h6) (by decide) (ce_31 _ _ _) (ci := 3) rfl (Or.inr (Or.inr ⟨_, _, _, tw_617, tw_616⟩)) tw_612 tw_613 tw_630 tw_629 tw_19 tw_631 (nA := 3) (by decide +kernel) rfl (by decide) (Nat.le_of_ble_eq_true rfl) rfl dX8_tellStores_32 ?_
        refine q_iinc (pc := 35) (k := 0) (v := (3 : Int32)) (lv' := [(4, .int (3 : Int32)), (0, .ref (gad G 0)), (1, .int a1), (2, .int a2), (3, .int a3)]) C dX8_tellStores_35 rfl (by decide) (by decide) rfl ?_
        refine q_goto (pc := 38) (tgt := 3) C dX8_tellStores_38 (by decide) ?_
        refine q_iload (pc := 3) C dX8_tellStores_3 0 rfl ?_
        refine q_iconst (pc := 5) (v := (4 : Int32)) C dX8_tellStores_5 (by decide) ?_
        refine q_icmp_ge (pc := 6) (tgt := 41) C dX8_tellStores_6 (by decide) (fun c => absurd c (by decide)) (fun _ => ?_)
        refine q_aload_n (pc := 9) C dX8_tellStores_9 rfl 1 rfl ?_
        refine q_get (pc := 10) (T := TX8) (v := .ref (gad G 58)) C (by decide) (ce_0 _ _ _) (ci := 6) rfl inlX8 (j := 4) (by decide) rfl tw_31 (Or.inl rfl) dX8_tellStores_10 ?_
        refine q_iload (pc := 13) C dX8_tellStores_13 0 rfl ?_
        refine q_aald (pc := 15) (k := 42) (n := 3) C (by decide) (by decide) rfl dX8_tellStores_15 ?_
        refine q_get (pc := 16) (T := TX1) (v := .int (S5 42 6)) C (by decide) (ce_42 _ _ _) (ci := 1) rfl inlX1 (j := 6) (by decide) rfl tw_199 (Or.inl rfl) dX8_tellStores_16 ?_
        refine q_if_ne (pc := 19) (tgt := 35) C dX8_tellStores_19 (by decide) (fun c8 => ?_) (fun c8 => ?_)
        · replace hm := hm_f c8 hm
          refine q_iinc (pc := 35) (k := 0) (v := (4 : Int32)) (lv' := [(4, .int (4 : Int32)), (0, .ref (gad G 0)), (1, .int a1), (2, .int a2), (3, .int a3)]) C dX8_tellStores_35 rfl (by decide) (by decide) rfl ?_
          refine q_goto (pc := 38) (tgt := 3) C dX8_tellStores_38 (by decide) ?_
          refine q_iload (pc := 3) C dX8_tellStores_3 0 rfl ?_
          refine q_iconst (pc := 5) (v := (4 : Int32)) C dX8_tellStores_5 (by decide) ?_
          refine q_icmp_ge (pc := 6) (tgt := 41) C dX8_tellStores_6 (by decide) (fun _ => ?_) (fun c => absurd c (by decide))
          cases hm
          exact q_vret (pc := 41) C dX8_tellStores_41
        · replace hm := hm_t c8 hm
          refine q_aload_n (pc := 22) C dX8_tellStores_22 rfl 1 rfl ?_
          refine q_get (pc := 23) (T := TX8) (v := .ref (gad G 58)) C (by decide) (ce_0 _ _ _) (ci := 6) rfl inlX8 (j := 4) (by decide) rfl tw_31 (Or.inl rfl) dX8_tellStores_23 ?_
          refine q_iload (pc := 26) C dX8_tellStores_26 0 rfl ?_
          refine q_aald (pc := 28) (k := 42) (n := 3) C (by decide) (by decide) rfl dX8_tellStores_28 ?_
          refine q_iload_n (pc := 29) C dX8_tellStores_29 rfl 2 rfl ?_
          refine q_iload_n (pc := 30) C dX8_tellStores_30 rfl 3 rfl ?_
          refine q_iload_n (pc := 31) C dX8_tellStores_31 rfl 4 rfl ?_
          obtain ⟨S6, h7, hm⟩ := o1_some hm
          refine q_callU (pc := 32) (k := 42) (As := [.int a1, .int a2, .int a3]) (rest := []) (T := TX1) (owner := "Tessera$Store") (x := ⟨"Tessera$Store", "learnNaming", "(III)V"⟩) C (c_Cou_learnNaming hi h7) (by decide) (ce_42 _ _ _) (ci := 1) rfl (Or.inr (Or.inr ⟨_, _, _, tw_617, tw_616⟩)) tw_612 tw_613 tw_619 tw_618 tw_22 tw_620 (nA := 3) (by decide +kernel) rfl (by decide) (Nat.le_of_ble_eq_true rfl) rfl dX8_tellStores_32 ?_
          refine q_iinc (pc := 35) (k := 0) (v := (4 : Int32)) (lv' := [(4, .int (4 : Int32)), (0, .ref (gad G 0)), (1, .int a1), (2, .int a2), (3, .int a3)]) C dX8_tellStores_35 rfl (by decide) (by decide) rfl ?_
          refine q_goto (pc := 38) (tgt := 3) C dX8_tellStores_38 (by decide) ?_
          refine q_iload (pc := 3) C dX8_tellStores_3 0 rfl ?_
          refine q_iconst (pc := 5) (v := (4 : Int32)) C dX8_tellStores_5 (by decide) ?_
          refine q_icmp_ge (pc := 6) (tgt := 41) C dX8_tellStores_6 (by decide) (fun _ => ?_) (fun c => absurd c (by decide))
          cases hm
          exact q_vret (pc := 41) C dX8_tellStores_41
  · replace hm := hm_t c1 hm
    refine q_aload_n (pc := 22) C dX8_tellStores_22 rfl 1 rfl ?_
    refine q_get (pc := 23) (T := TX8) (v := .ref (gad G 58)) C (by decide) (ce_0 _ _ _) (ci := 6) rfl inlX8 (j := 4) (by decide) rfl tw_31 (Or.inl rfl) dX8_tellStores_23 ?_
    refine q_iload (pc := 26) C dX8_tellStores_26 0 rfl ?_
    refine q_aald (pc := 28) (k := 12) (n := 0) C (by decide) (by decide) rfl dX8_tellStores_28 ?_
    refine q_iload_n (pc := 29) C dX8_tellStores_29 rfl 2 rfl ?_
    refine q_iload_n (pc := 30) C dX8_tellStores_30 rfl 3 rfl ?_
    refine q_iload_n (pc := 31) C dX8_tellStores_31 rfl 4 rfl ?_
    obtain ⟨u2, h8, hm⟩ := o1_some hm
    refine q_callU (pc := 32) (k := 12) (As := [.int a1, .int a2, .int a3]) (rest := []) (T := TX0) (owner := "Tessera$Store") (x := ⟨"Tessera$Store", "learnNaming", "(III)V"⟩) C (c_St_learnNaming_Cop_12 hi h8) (by decide) (ce_12 _ _ _) (ci := 0) rfl (Or.inl rfl) tw_612 tw_613 tw_615 tw_614 tw_62 tw_616 (nA := 3) (by decide +kernel) rfl (by decide) (Nat.le_of_ble_eq_true rfl) rfl dX8_tellStores_32 ?_
    refine q_iinc (pc := 35) (k := 0) (v := (1 : Int32)) (lv' := [(4, .int (1 : Int32)), (0, .ref (gad G 0)), (1, .int a1), (2, .int a2), (3, .int a3)]) C dX8_tellStores_35 rfl (by decide) (by decide) rfl ?_
    refine q_goto (pc := 38) (tgt := 3) C dX8_tellStores_38 (by decide) ?_
    refine q_iload (pc := 3) C dX8_tellStores_3 0 rfl ?_
    refine q_iconst (pc := 5) (v := (4 : Int32)) C dX8_tellStores_5 (by decide) ?_
    refine q_icmp_ge (pc := 6) (tgt := 41) C dX8_tellStores_6 (by decide) (fun c => absurd c (by decide)) (fun _ => ?_)
    refine q_aload_n (pc := 9) C dX8_tellStores_9 rfl 1 rfl ?_
    refine q_get (pc := 10) (T := TX8) (v := .ref (gad G 58)) C (by decide) (ce_0 _ _ _) (ci := 6) rfl inlX8 (j := 4) (by decide) rfl tw_31 (Or.inl rfl) dX8_tellStores_10 ?_
    refine q_iload (pc := 13) C dX8_tellStores_13 0 rfl ?_
    refine q_aald (pc := 15) (k := 18) (n := 1) C (by decide) (by decide) rfl dX8_tellStores_15 ?_
    refine q_get (pc := 16) (T := TX4) (v := .int (S 18 5)) C (by decide) (ce_18 _ _ _) (ci := 4) rfl inlX4 (j := 5) (by decide) rfl tw_199 (Or.inl rfl) dX8_tellStores_16 ?_
    refine q_if_ne (pc := 19) (tgt := 35) C dX8_tellStores_19 (by decide) (fun c9 => ?_) (fun c9 => ?_)
    · replace hm := hm_f c9 hm
      refine q_iinc (pc := 35) (k := 0) (v := (2 : Int32)) (lv' := [(4, .int (2 : Int32)), (0, .ref (gad G 0)), (1, .int a1), (2, .int a2), (3, .int a3)]) C dX8_tellStores_35 rfl (by decide) (by decide) rfl ?_
      refine q_goto (pc := 38) (tgt := 3) C dX8_tellStores_38 (by decide) ?_
      refine q_iload (pc := 3) C dX8_tellStores_3 0 rfl ?_
      refine q_iconst (pc := 5) (v := (4 : Int32)) C dX8_tellStores_5 (by decide) ?_
      refine q_icmp_ge (pc := 6) (tgt := 41) C dX8_tellStores_6 (by decide) (fun c => absurd c (by decide)) (fun _ => ?_)
      refine q_aload_n (pc := 9) C dX8_tellStores_9 rfl 1 rfl ?_
      refine q_get (pc := 10) (T := TX8) (v := .ref (gad G 58)) C (by decide) (ce_0 _ _ _) (ci := 6) rfl inlX8 (j := 4) (by decide) rfl tw_31 (Or.inl rfl) dX8_tellStores_10 ?_
      refine q_iload (pc := 13) C dX8_tellStores_13 0 rfl ?_
      refine q_aald (pc := 15) (k := 31) (n := 2) C (by decide) (by decide) rfl dX8_tellStores_15 ?_
      refine q_get (pc := 16) (T := TX3) (v := .int (S 31 6)) C (by decide) (ce_31 _ _ _) (ci := 3) rfl inlX3 (j := 6) (by decide) rfl tw_199 (Or.inl rfl) dX8_tellStores_16 ?_
      refine q_if_ne (pc := 19) (tgt := 35) C dX8_tellStores_19 (by decide) (fun c10 => ?_) (fun c10 => ?_)
      · replace hm := hm_f c10 hm
        refine q_iinc (pc := 35) (k := 0) (v := (3 : Int32)) (lv' := [(4, .int (3 : Int32)), (0, .ref (gad G 0)), (1, .int a1), (2, .int a2), (3, .int a3)]) C dX8_tellStores_35 rfl (by decide) (by decide) rfl ?_
        refine q_goto (pc := 38) (tgt := 3) C dX8_tellStores_38 (by decide) ?_
        refine q_iload (pc := 3) C dX8_tellStores_3 0 rfl ?_
        refine q_iconst (pc := 5) (v := (4 : Int32)) C dX8_tellStores_5 (by decide) ?_
        refine q_icmp_ge (pc := 6) (tgt := 41) C dX8_tellStores_6 (by decide) (fun c => absurd c (by decide)) (fun _ => ?_)
        refine q_aload_n (pc := 9) C dX8_tellStores_9 rfl 1 rfl ?_
        refine q_get (pc := 10) (T := TX8) (v := .ref (gad G 58)) C (by decide) (ce_0 _ _ _) (ci := 6) rfl inlX8 (j := 4) (by decide) rfl tw_31 (Or.inl rfl) dX8_tellStores_10 ?_
        refine q_iload (pc := 13) C dX8_tellStores_13 0 rfl ?_
        refine q_aald (pc := 15) (k := 42) (n := 3) C (by decide) (by decide) rfl dX8_tellStores_15 ?_
        refine q_get (pc := 16) (T := TX1) (v := .int (S 42 6)) C (by decide) (ce_42 _ _ _) (ci := 1) rfl inlX1 (j := 6) (by decide) rfl tw_199 (Or.inl rfl) dX8_tellStores_16 ?_
        refine q_if_ne (pc := 19) (tgt := 35) C dX8_tellStores_19 (by decide) (fun c11 => ?_) (fun c11 => ?_)
        · replace hm := hm_f c11 hm
          refine q_iinc (pc := 35) (k := 0) (v := (4 : Int32)) (lv' := [(4, .int (4 : Int32)), (0, .ref (gad G 0)), (1, .int a1), (2, .int a2), (3, .int a3)]) C dX8_tellStores_35 rfl (by decide) (by decide) rfl ?_
          refine q_goto (pc := 38) (tgt := 3) C dX8_tellStores_38 (by decide) ?_
          refine q_iload (pc := 3) C dX8_tellStores_3 0 rfl ?_
          refine q_iconst (pc := 5) (v := (4 : Int32)) C dX8_tellStores_5 (by decide) ?_
          refine q_icmp_ge (pc := 6) (tgt := 41) C dX8_tellStores_6 (by decide) (fun _ => ?_) (fun c => absurd c (by decide))
          cases hm
          exact q_vret (pc := 41) C dX8_tellStores_41
        · replace hm := hm_t c11 hm
          refine q_aload_n (pc := 22) C dX8_tellStores_22 rfl 1 rfl ?_
          refine q_get (pc := 23) (T := TX8) (v := .ref (gad G 58)) C (by decide) (ce_0 _ _ _) (ci := 6) rfl inlX8 (j := 4) (by decide) rfl tw_31 (Or.inl rfl) dX8_tellStores_23 ?_
          refine q_iload (pc := 26) C dX8_tellStores_26 0 rfl ?_
          refine q_aald (pc := 28) (k := 42) (n := 3) C (by decide) (by decide) rfl dX8_tellStores_28 ?_
          refine q_iload_n (pc := 29) C dX8_tellStores_29 rfl 2 rfl ?_
          refine q_iload_n (pc := 30) C dX8_tellStores_30 rfl 3 rfl ?_
          refine q_iload_n (pc := 31) C dX8_tellStores_31 rfl 4 rfl ?_
          obtain ⟨S7, h9, hm⟩ := o1_some hm
          refine q_callU (pc := 32) (k := 42) (As := [.int a1, .int a2, .int a3]) (rest := []) (T := TX1) (owner := "Tessera$Store") (x := ⟨"Tessera$Store", "learnNaming", "(III)V"⟩) C (c_Cou_learnNaming hi h9) (by decide) (ce_42 _ _ _) (ci := 1) rfl (Or.inr (Or.inr ⟨_, _, _, tw_617, tw_616⟩)) tw_612 tw_613 tw_619 tw_618 tw_22 tw_620 (nA := 3) (by decide +kernel) rfl (by decide) (Nat.le_of_ble_eq_true rfl) rfl dX8_tellStores_32 ?_
          refine q_iinc (pc := 35) (k := 0) (v := (4 : Int32)) (lv' := [(4, .int (4 : Int32)), (0, .ref (gad G 0)), (1, .int a1), (2, .int a2), (3, .int a3)]) C dX8_tellStores_35 rfl (by decide) (by decide) rfl ?_
          refine q_goto (pc := 38) (tgt := 3) C dX8_tellStores_38 (by decide) ?_
          refine q_iload (pc := 3) C dX8_tellStores_3 0 rfl ?_
          refine q_iconst (pc := 5) (v := (4 : Int32)) C dX8_tellStores_5 (by decide) ?_
          refine q_icmp_ge (pc := 6) (tgt := 41) C dX8_tellStores_6 (by decide) (fun _ => ?_) (fun c => absurd c (by decide))
          cases hm
          exact q_vret (pc := 41) C dX8_tellStores_41
      · replace hm := hm_t c10 hm
        refine q_aload_n (pc := 22) C dX8_tellStores_22 rfl 1 rfl ?_
        refine q_get (pc := 23) (T := TX8) (v := .ref (gad G 58)) C (by decide) (ce_0 _ _ _) (ci := 6) rfl inlX8 (j := 4) (by decide) rfl tw_31 (Or.inl rfl) dX8_tellStores_23 ?_
        refine q_iload (pc := 26) C dX8_tellStores_26 0 rfl ?_
        refine q_aald (pc := 28) (k := 31) (n := 2) C (by decide) (by decide) rfl dX8_tellStores_28 ?_
        refine q_iload_n (pc := 29) C dX8_tellStores_29 rfl 2 rfl ?_
        refine q_iload_n (pc := 30) C dX8_tellStores_30 rfl 3 rfl ?_
        refine q_iload_n (pc := 31) C dX8_tellStores_31 rfl 4 rfl ?_
        obtain ⟨S8, h10, hm⟩ := o1_some hm
        refine q_callU (pc := 32) (k := 31) (As := [.int a1, .int a2, .int a3]) (rest := []) (T := TX3) (owner := "Tessera$Store") (x := ⟨"Tessera$Store", "learnNaming", "(III)V"⟩) C (c_Mar_learnNaming hi h10) (by decide) (ce_31 _ _ _) (ci := 3) rfl (Or.inr (Or.inr ⟨_, _, _, tw_617, tw_616⟩)) tw_612 tw_613 tw_630 tw_629 tw_19 tw_631 (nA := 3) (by decide +kernel) rfl (by decide) (Nat.le_of_ble_eq_true rfl) rfl dX8_tellStores_32 ?_
        refine q_iinc (pc := 35) (k := 0) (v := (3 : Int32)) (lv' := [(4, .int (3 : Int32)), (0, .ref (gad G 0)), (1, .int a1), (2, .int a2), (3, .int a3)]) C dX8_tellStores_35 rfl (by decide) (by decide) rfl ?_
        refine q_goto (pc := 38) (tgt := 3) C dX8_tellStores_38 (by decide) ?_
        refine q_iload (pc := 3) C dX8_tellStores_3 0 rfl ?_
        refine q_iconst (pc := 5) (v := (4 : Int32)) C dX8_tellStores_5 (by decide) ?_
        refine q_icmp_ge (pc := 6) (tgt := 41) C dX8_tellStores_6 (by decide) (fun c => absurd c (by decide)) (fun _ => ?_)
        refine q_aload_n (pc := 9) C dX8_tellStores_9 rfl 1 rfl ?_
        refine q_get (pc := 10) (T := TX8) (v := .ref (gad G 58)) C (by decide) (ce_0 _ _ _) (ci := 6) rfl inlX8 (j := 4) (by decide) rfl tw_31 (Or.inl rfl) dX8_tellStores_10 ?_
        refine q_iload (pc := 13) C dX8_tellStores_13 0 rfl ?_
        refine q_aald (pc := 15) (k := 42) (n := 3) C (by decide) (by decide) rfl dX8_tellStores_15 ?_
        refine q_get (pc := 16) (T := TX1) (v := .int (S8 42 6)) C (by decide) (ce_42 _ _ _) (ci := 1) rfl inlX1 (j := 6) (by decide) rfl tw_199 (Or.inl rfl) dX8_tellStores_16 ?_
        refine q_if_ne (pc := 19) (tgt := 35) C dX8_tellStores_19 (by decide) (fun c12 => ?_) (fun c12 => ?_)
        · replace hm := hm_f c12 hm
          refine q_iinc (pc := 35) (k := 0) (v := (4 : Int32)) (lv' := [(4, .int (4 : Int32)), (0, .ref (gad G 0)), (1, .int a1), (2, .int a2), (3, .int a3)]) C dX8_tellStores_35 rfl (by decide) (by decide) rfl ?_
          refine q_goto (pc := 38) (tgt := 3) C dX8_tellStores_38 (by decide) ?_
          refine q_iload (pc := 3) C dX8_tellStores_3 0 rfl ?_
          refine q_iconst (pc := 5) (v := (4 : Int32)) C dX8_tellStores_5 (by decide) ?_
          refine q_icmp_ge (pc := 6) (tgt := 41) C dX8_tellStores_6 (by decide) (fun _ => ?_) (fun c => absurd c (by decide))
          cases hm
          exact q_vret (pc := 41) C dX8_tellStores_41
        · replace hm := hm_t c12 hm
          refine q_aload_n (pc := 22) C dX8_tellStores_22 rfl 1 rfl ?_
          refine q_get (pc := 23) (T := TX8) (v := .ref (gad G 58)) C (by decide) (ce_0 _ _ _) (ci := 6) rfl inlX8 (j := 4) (by decide) rfl tw_31 (Or.inl rfl) dX8_tellStores_23 ?_
          refine q_iload (pc := 26) C dX8_tellStores_26 0 rfl ?_
          refine q_aald (pc := 28) (k := 42) (n := 3) C (by decide) (by decide) rfl dX8_tellStores_28 ?_
          refine q_iload_n (pc := 29) C dX8_tellStores_29 rfl 2 rfl ?_
          refine q_iload_n (pc := 30) C dX8_tellStores_30 rfl 3 rfl ?_
          refine q_iload_n (pc := 31) C dX8_tellStores_31 rfl 4 rfl ?_
          obtain ⟨S9, h11, hm⟩ := o1_some hm
          refine q_callU (pc := 32) (k := 42) (As := [.int a1, .int a2, .int a3]) (rest := []) (T := TX1) (owner := "Tessera$Store") (x := ⟨"Tessera$Store", "learnNaming", "(III)V"⟩) C (c_Cou_learnNaming hi h11) (by decide) (ce_42 _ _ _) (ci := 1) rfl (Or.inr (Or.inr ⟨_, _, _, tw_617, tw_616⟩)) tw_612 tw_613 tw_619 tw_618 tw_22 tw_620 (nA := 3) (by decide +kernel) rfl (by decide) (Nat.le_of_ble_eq_true rfl) rfl dX8_tellStores_32 ?_
          refine q_iinc (pc := 35) (k := 0) (v := (4 : Int32)) (lv' := [(4, .int (4 : Int32)), (0, .ref (gad G 0)), (1, .int a1), (2, .int a2), (3, .int a3)]) C dX8_tellStores_35 rfl (by decide) (by decide) rfl ?_
          refine q_goto (pc := 38) (tgt := 3) C dX8_tellStores_38 (by decide) ?_
          refine q_iload (pc := 3) C dX8_tellStores_3 0 rfl ?_
          refine q_iconst (pc := 5) (v := (4 : Int32)) C dX8_tellStores_5 (by decide) ?_
          refine q_icmp_ge (pc := 6) (tgt := 41) C dX8_tellStores_6 (by decide) (fun _ => ?_) (fun c => absurd c (by decide))
          cases hm
          exact q_vret (pc := 41) C dX8_tellStores_41
    · replace hm := hm_t c9 hm
      refine q_aload_n (pc := 22) C dX8_tellStores_22 rfl 1 rfl ?_
      refine q_get (pc := 23) (T := TX8) (v := .ref (gad G 58)) C (by decide) (ce_0 _ _ _) (ci := 6) rfl inlX8 (j := 4) (by decide) rfl tw_31 (Or.inl rfl) dX8_tellStores_23 ?_
      refine q_iload (pc := 26) C dX8_tellStores_26 0 rfl ?_
      refine q_aald (pc := 28) (k := 18) (n := 1) C (by decide) (by decide) rfl dX8_tellStores_28 ?_
      refine q_iload_n (pc := 29) C dX8_tellStores_29 rfl 2 rfl ?_
      refine q_iload_n (pc := 30) C dX8_tellStores_30 rfl 3 rfl ?_
      refine q_iload_n (pc := 31) C dX8_tellStores_31 rfl 4 rfl ?_
      obtain ⟨u3, h12, hm⟩ := o1_some hm
      refine q_callU (pc := 32) (k := 18) (As := [.int a1, .int a2, .int a3]) (rest := []) (T := TX4) (owner := "Tessera$Store") (x := ⟨"Tessera$Store", "learnNaming", "(III)V"⟩) C (c_St_learnNaming_Nur_18 hi h12) (by decide) (ce_18 _ _ _) (ci := 4) rfl (Or.inl rfl) tw_612 tw_613 tw_615 tw_632 tw_62 tw_616 (nA := 3) (by decide +kernel) rfl (by decide) (Nat.le_of_ble_eq_true rfl) rfl dX8_tellStores_32 ?_
      refine q_iinc (pc := 35) (k := 0) (v := (2 : Int32)) (lv' := [(4, .int (2 : Int32)), (0, .ref (gad G 0)), (1, .int a1), (2, .int a2), (3, .int a3)]) C dX8_tellStores_35 rfl (by decide) (by decide) rfl ?_
      refine q_goto (pc := 38) (tgt := 3) C dX8_tellStores_38 (by decide) ?_
      refine q_iload (pc := 3) C dX8_tellStores_3 0 rfl ?_
      refine q_iconst (pc := 5) (v := (4 : Int32)) C dX8_tellStores_5 (by decide) ?_
      refine q_icmp_ge (pc := 6) (tgt := 41) C dX8_tellStores_6 (by decide) (fun c => absurd c (by decide)) (fun _ => ?_)
      refine q_aload_n (pc := 9) C dX8_tellStores_9 rfl 1 rfl ?_
      refine q_get (pc := 10) (T := TX8) (v := .ref (gad G 58)) C (by decide) (ce_0 _ _ _) (ci := 6) rfl inlX8 (j := 4) (by decide) rfl tw_31 (Or.inl rfl) dX8_tellStores_10 ?_
      refine q_iload (pc := 13) C dX8_tellStores_13 0 rfl ?_
      refine q_aald (pc := 15) (k := 31) (n := 2) C (by decide) (by decide) rfl dX8_tellStores_15 ?_
      refine q_get (pc := 16) (T := TX3) (v := .int (S 31 6)) C (by decide) (ce_31 _ _ _) (ci := 3) rfl inlX3 (j := 6) (by decide) rfl tw_199 (Or.inl rfl) dX8_tellStores_16 ?_
      refine q_if_ne (pc := 19) (tgt := 35) C dX8_tellStores_19 (by decide) (fun c13 => ?_) (fun c13 => ?_)
      · replace hm := hm_f c13 hm
        refine q_iinc (pc := 35) (k := 0) (v := (3 : Int32)) (lv' := [(4, .int (3 : Int32)), (0, .ref (gad G 0)), (1, .int a1), (2, .int a2), (3, .int a3)]) C dX8_tellStores_35 rfl (by decide) (by decide) rfl ?_
        refine q_goto (pc := 38) (tgt := 3) C dX8_tellStores_38 (by decide) ?_
        refine q_iload (pc := 3) C dX8_tellStores_3 0 rfl ?_
        refine q_iconst (pc := 5) (v := (4 : Int32)) C dX8_tellStores_5 (by decide) ?_
        refine q_icmp_ge (pc := 6) (tgt := 41) C dX8_tellStores_6 (by decide) (fun c => absurd c (by decide)) (fun _ => ?_)
        refine q_aload_n (pc := 9) C dX8_tellStores_9 rfl 1 rfl ?_
        refine q_get (pc := 10) (T := TX8) (v := .ref (gad G 58)) C (by decide) (ce_0 _ _ _) (ci := 6) rfl inlX8 (j := 4) (by decide) rfl tw_31 (Or.inl rfl) dX8_tellStores_10 ?_
        refine q_iload (pc := 13) C dX8_tellStores_13 0 rfl ?_
        refine q_aald (pc := 15) (k := 42) (n := 3) C (by decide) (by decide) rfl dX8_tellStores_15 ?_
        refine q_get (pc := 16) (T := TX1) (v := .int (S 42 6)) C (by decide) (ce_42 _ _ _) (ci := 1) rfl inlX1 (j := 6) (by decide) rfl tw_199 (Or.inl rfl) dX8_tellStores_16 ?_
        refine q_if_ne (pc := 19) (tgt := 35) C dX8_tellStores_19 (by decide) (fun c14 => ?_) (fun c14 => ?_)
        · replace hm := hm_f c14 hm
          refine q_iinc (pc := 35) (k := 0) (v := (4 : Int32)) (lv' := [(4, .int (4 : Int32)), (0, .ref (gad G 0)), (1, .int a1), (2, .int a2), (3, .int a3)]) C dX8_tellStores_35 rfl (by decide) (by decide) rfl ?_
          refine q_goto (pc := 38) (tgt := 3) C dX8_tellStores_38 (by decide) ?_
          refine q_iload (pc := 3) C dX8_tellStores_3 0 rfl ?_
          refine q_iconst (pc := 5) (v := (4 : Int32)) C dX8_tellStores_5 (by decide) ?_
          refine q_icmp_ge (pc := 6) (tgt := 41) C dX8_tellStores_6 (by decide) (fun _ => ?_) (fun c => absurd c (by decide))
          cases hm
          exact q_vret (pc := 41) C dX8_tellStores_41
        · replace hm := hm_t c14 hm
          refine q_aload_n (pc := 22) C dX8_tellStores_22 rfl 1 rfl ?_
          refine q_get (pc := 23) (T := TX8) (v := .ref (gad G 58)) C (by decide) (ce_0 _ _ _) (ci := 6) rfl inlX8 (j := 4) (by decide) rfl tw_31 (Or.inl rfl) dX8_tellStores_23 ?_
          refine q_iload (pc := 26) C dX8_tellStores_26 0 rfl ?_
          refine q_aald (pc := 28) (k := 42) (n := 3) C (by decide) (by decide) rfl dX8_tellStores_28 ?_
          refine q_iload_n (pc := 29) C dX8_tellStores_29 rfl 2 rfl ?_
          refine q_iload_n (pc := 30) C dX8_tellStores_30 rfl 3 rfl ?_
          refine q_iload_n (pc := 31) C dX8_tellStores_31 rfl 4 rfl ?_
          obtain ⟨S10, h13, hm⟩ := o1_some hm
          refine q_callU (pc := 32) (k := 42) (As := [.int a1, .int a2, .int a3]) (rest := []) (T := TX1) (owner := "Tessera$Store") (x := ⟨"Tessera$Store", "learnNaming", "(III)V"⟩) C (c_Cou_learnNaming hi h13) (by decide) (ce_42 _ _ _) (ci := 1) rfl (Or.inr (Or.inr ⟨_, _, _, tw_617, tw_616⟩)) tw_612 tw_613 tw_619 tw_618 tw_22 tw_620 (nA := 3) (by decide +kernel) rfl (by decide) (Nat.le_of_ble_eq_true rfl) rfl dX8_tellStores_32 ?_
          refine q_iinc (pc := 35) (k := 0) (v := (4 : Int32)) (lv' := [(4, .int (4 : Int32)), (0, .ref (gad G 0)), (1, .int a1), (2, .int a2), (3, .int a3)]) C dX8_tellStores_35 rfl (by decide) (by decide) rfl ?_
          refine q_goto (pc := 38) (tgt := 3) C dX8_tellStores_38 (by decide) ?_
          refine q_iload (pc := 3) C dX8_tellStores_3 0 rfl ?_
          refine q_iconst (pc := 5) (v := (4 : Int32)) C dX8_tellStores_5 (by decide) ?_
          refine q_icmp_ge (pc := 6) (tgt := 41) C dX8_tellStores_6 (by decide) (fun _ => ?_) (fun c => absurd c (by decide))
          cases hm
          exact q_vret (pc := 41) C dX8_tellStores_41
      · replace hm := hm_t c13 hm
        refine q_aload_n (pc := 22) C dX8_tellStores_22 rfl 1 rfl ?_
        refine q_get (pc := 23) (T := TX8) (v := .ref (gad G 58)) C (by decide) (ce_0 _ _ _) (ci := 6) rfl inlX8 (j := 4) (by decide) rfl tw_31 (Or.inl rfl) dX8_tellStores_23 ?_
        refine q_iload (pc := 26) C dX8_tellStores_26 0 rfl ?_
        refine q_aald (pc := 28) (k := 31) (n := 2) C (by decide) (by decide) rfl dX8_tellStores_28 ?_
        refine q_iload_n (pc := 29) C dX8_tellStores_29 rfl 2 rfl ?_
        refine q_iload_n (pc := 30) C dX8_tellStores_30 rfl 3 rfl ?_
        refine q_iload_n (pc := 31) C dX8_tellStores_31 rfl 4 rfl ?_
        obtain ⟨S11, h14, hm⟩ := o1_some hm
        refine q_callU (pc := 32) (k := 31) (As := [.int a1, .int a2, .int a3]) (rest := []) (T := TX3) (owner := "Tessera$Store") (x := ⟨"Tessera$Store", "learnNaming", "(III)V"⟩) C (c_Mar_learnNaming hi h14) (by decide) (ce_31 _ _ _) (ci := 3) rfl (Or.inr (Or.inr ⟨_, _, _, tw_617, tw_616⟩)) tw_612 tw_613 tw_630 tw_629 tw_19 tw_631 (nA := 3) (by decide +kernel) rfl (by decide) (Nat.le_of_ble_eq_true rfl) rfl dX8_tellStores_32 ?_
        refine q_iinc (pc := 35) (k := 0) (v := (3 : Int32)) (lv' := [(4, .int (3 : Int32)), (0, .ref (gad G 0)), (1, .int a1), (2, .int a2), (3, .int a3)]) C dX8_tellStores_35 rfl (by decide) (by decide) rfl ?_
        refine q_goto (pc := 38) (tgt := 3) C dX8_tellStores_38 (by decide) ?_
        refine q_iload (pc := 3) C dX8_tellStores_3 0 rfl ?_
        refine q_iconst (pc := 5) (v := (4 : Int32)) C dX8_tellStores_5 (by decide) ?_
        refine q_icmp_ge (pc := 6) (tgt := 41) C dX8_tellStores_6 (by decide) (fun c => absurd c (by decide)) (fun _ => ?_)
        refine q_aload_n (pc := 9) C dX8_tellStores_9 rfl 1 rfl ?_
        refine q_get (pc := 10) (T := TX8) (v := .ref (gad G 58)) C (by decide) (ce_0 _ _ _) (ci := 6) rfl inlX8 (j := 4) (by decide) rfl tw_31 (Or.inl rfl) dX8_tellStores_10 ?_
        refine q_iload (pc := 13) C dX8_tellStores_13 0 rfl ?_
        refine q_aald (pc := 15) (k := 42) (n := 3) C (by decide) (by decide) rfl dX8_tellStores_15 ?_
        refine q_get (pc := 16) (T := TX1) (v := .int (S11 42 6)) C (by decide) (ce_42 _ _ _) (ci := 1) rfl inlX1 (j := 6) (by decide) rfl tw_199 (Or.inl rfl) dX8_tellStores_16 ?_
        refine q_if_ne (pc := 19) (tgt := 35) C dX8_tellStores_19 (by decide) (fun c15 => ?_) (fun c15 => ?_)
        · replace hm := hm_f c15 hm
          refine q_iinc (pc := 35) (k := 0) (v := (4 : Int32)) (lv' := [(4, .int (4 : Int32)), (0, .ref (gad G 0)), (1, .int a1), (2, .int a2), (3, .int a3)]) C dX8_tellStores_35 rfl (by decide) (by decide) rfl ?_
          refine q_goto (pc := 38) (tgt := 3) C dX8_tellStores_38 (by decide) ?_
          refine q_iload (pc := 3) C dX8_tellStores_3 0 rfl ?_
          refine q_iconst (pc := 5) (v := (4 : Int32)) C dX8_tellStores_5 (by decide) ?_
          refine q_icmp_ge (pc := 6) (tgt := 41) C dX8_tellStores_6 (by decide) (fun _ => ?_) (fun c => absurd c (by decide))
          cases hm
          exact q_vret (pc := 41) C dX8_tellStores_41
        · replace hm := hm_t c15 hm
          refine q_aload_n (pc := 22) C dX8_tellStores_22 rfl 1 rfl ?_
          refine q_get (pc := 23) (T := TX8) (v := .ref (gad G 58)) C (by decide) (ce_0 _ _ _) (ci := 6) rfl inlX8 (j := 4) (by decide) rfl tw_31 (Or.inl rfl) dX8_tellStores_23 ?_
          refine q_iload (pc := 26) C dX8_tellStores_26 0 rfl ?_
          refine q_aald (pc := 28) (k := 42) (n := 3) C (by decide) (by decide) rfl dX8_tellStores_28 ?_
          refine q_iload_n (pc := 29) C dX8_tellStores_29 rfl 2 rfl ?_
          refine q_iload_n (pc := 30) C dX8_tellStores_30 rfl 3 rfl ?_
          refine q_iload_n (pc := 31) C dX8_tellStores_31 rfl 4 rfl ?_
          obtain ⟨S12, h15, hm⟩ := o1_some hm
          refine q_callU (pc := 32) (k := 42) (As := [.int a1, .int a2, .int a3]) (rest := []) (T := TX1) (owner := "Tessera$Store") (x := ⟨"Tessera$Store", "learnNaming", "(III)V"⟩) C (c_Cou_learnNaming hi h15) (by decide) (ce_42 _ _ _) (ci := 1) rfl (Or.inr (Or.inr ⟨_, _, _, tw_617, tw_616⟩)) tw_612 tw_613 tw_619 tw_618 tw_22 tw_620 (nA := 3) (by decide +kernel) rfl (by decide) (Nat.le_of_ble_eq_true rfl) rfl dX8_tellStores_32 ?_
          refine q_iinc (pc := 35) (k := 0) (v := (4 : Int32)) (lv' := [(4, .int (4 : Int32)), (0, .ref (gad G 0)), (1, .int a1), (2, .int a2), (3, .int a3)]) C dX8_tellStores_35 rfl (by decide) (by decide) rfl ?_
          refine q_goto (pc := 38) (tgt := 3) C dX8_tellStores_38 (by decide) ?_
          refine q_iload (pc := 3) C dX8_tellStores_3 0 rfl ?_
          refine q_iconst (pc := 5) (v := (4 : Int32)) C dX8_tellStores_5 (by decide) ?_
          refine q_icmp_ge (pc := 6) (tgt := 41) C dX8_tellStores_6 (by decide) (fun _ => ?_) (fun c => absurd c (by decide))
          cases hm
          exact q_vret (pc := 41) C dX8_tellStores_41
set_option maxRecDepth 100000 in
theorem c_Te_nameByRoot {G : Gx} (hi : qinj (gad G)) {S : St} {a1 : Int32} {a2 : Int32} {zr : Int32} {zS : St} (hm : m_Te_nameByRoot S a1 a2 = some (zr, zS)) : QMet G yX8_nameByRoot cX8_nameByRoot 4 (some .int) 5 113 [.ref (gad G 0), .int a1, .int a2] S (some (.int zr)) zS := by
  refine q_entry (by decide +kernel) rfl hi (Nat.le_of_ble_eq_true rfl) ?_
  intro X C
  refine q_lv (lv' := [(0, .ref (gad G 0)), (1, .int a1), (2, .int a2)]) [0, 1, 2] rfl ?_
  unfold m_Te_nameByRoot at hm
  refine q_aload_n (pc := 0) C dX8_nameByRoot_0 rfl 0 rfl ?_
  refine q_get (pc := 1) (T := TX8) (v := .ref (gad G 1)) C (by decide) (ce_0 _ _ _) (ci := 6) rfl inlX8 (j := 0) (by decide) rfl tw_27 (Or.inl rfl) dX8_nameByRoot_1 ?_
  refine q_iload_n (pc := 4) C dX8_nameByRoot_4 rfl 1 rfl ?_
  obtain ⟨r1, h1, hm⟩ := o1_some hm
  refine q_callV (pc := 5) (k := 1) (As := [.int a1]) (rest := []) (T := TX2) C (c_Gr_rootAt hi h1) (by decide) (ce_1 _ _ _) (ci := 2) rfl tw_589 tw_424 tw_425 tw_13 tw_426 (nA := 1) (by decide +kernel) rfl (by decide) (Nat.le_of_ble_eq_true rfl) rfl dX8_nameByRoot_5 ?_
  refine q_istore_n (pc := 8) (lv' := [(3, .int r1), (0, .ref (gad G 0)), (1, .int a1), (2, .int a2)]) C dX8_nameByRoot_8 rfl (by decide) rfl ?_
  refine q_iload_n (pc := 9) C dX8_nameByRoot_9 rfl 0 rfl ?_
  refine q_iload_n (pc := 10) C dX8_nameByRoot_10 rfl 3 rfl ?_
  refine q_icmp_eq (pc := 11) (tgt := 30) C dX8_nameByRoot_11 (by decide) (fun c1 => ?_) (fun c1 => ?_)
  · replace hm := hm_t c1 hm
    refine q_iload_n (pc := 30) C dX8_nameByRoot_30 rfl 0 rfl ?_
    cases hm
    exact q_iret (pc := 31) C dX8_nameByRoot_31
  · replace hm := hm_f c1 hm
    refine q_aload_n (pc := 14) C dX8_nameByRoot_14 rfl 1 rfl ?_
    refine q_get (pc := 15) (T := TX8) (v := .ref (gad G 1)) C (by decide) (ce_0 _ _ _) (ci := 6) rfl inlX8 (j := 0) (by decide) rfl tw_27 (Or.inl rfl) dX8_nameByRoot_15 ?_
    refine q_iload_n (pc := 18) C dX8_nameByRoot_18 rfl 2 rfl ?_
    refine q_iload_n (pc := 19) C dX8_nameByRoot_19 rfl 3 rfl ?_
    obtain ⟨S1, h2, hm⟩ := o1_some hm
    refine q_callV (pc := 20) (k := 1) (As := [.int a1, .int a2]) (rest := []) (T := TX2) C (c_Gr_nameByRoot hi h2) (by decide) (ce_1 _ _ _) (ci := 2) rfl tw_590 tw_591 tw_592 tw_13 tw_593 (nA := 2) (by decide +kernel) rfl (by decide) (Nat.le_of_ble_eq_true rfl) rfl dX8_nameByRoot_20 ?_
    refine q_aload_n (pc := 23) C dX8_nameByRoot_23 rfl 1 rfl ?_
    refine q_iconst (pc := 24) (v := (-1 : Int32)) C dX8_nameByRoot_24 (by decide) ?_
    refine q_iload_n (pc := 25) C dX8_nameByRoot_25 rfl 0 rfl ?_
    refine q_iload_n (pc := 26) C dX8_nameByRoot_26 rfl 3 rfl ?_
    obtain ⟨S2, h3, hm⟩ := o1_some hm
    refine q_callV (pc := 27) (k := 0) (As := [.int (-1 : Int32), .int r1, .int a2]) (rest := []) (T := TX8) C (c_Te_tellStores hi h3) (by decide) (ce_0 _ _ _) (ci := 6) rfl tw_608 tw_609 tw_610 tw_2 tw_611 (nA := 3) (by decide +kernel) rfl (by decide) (Nat.le_of_ble_eq_true rfl) rfl dX8_nameByRoot_27 ?_
    refine q_iload_n (pc := 30) C dX8_nameByRoot_30 rfl 0 rfl ?_
    cases hm
    exact q_iret (pc := 31) C dX8_nameByRoot_31
set_option maxRecDepth 100000 in
theorem c_St_closePause_12 {G : Gx} (hi : qinj (gad G)) {S : St}  {zS : St} (hm : m_St_closePause 12 0 S  = some zS) : QMet G yX7_closePause cX7_closePause 1 none 1 21 [.ref (gad G 12)] S none zS := by
  refine q_entry (by decide +kernel) rfl hi (Nat.le_of_ble_eq_true rfl) ?_
  intro X C
  refine q_lv (lv' := [(0, .ref (gad G 12))]) [0] rfl ?_
  unfold m_St_closePause at hm
  refine q_aload_n (pc := 0) C dX7_closePause_0 rfl 0 rfl ?_
  refine q_aload_n (pc := 1) C dX7_closePause_1 rfl 0 rfl ?_
  refine q_get (pc := 2) (T := TX0) (v := .int (S 12 3)) C (by decide) (ce_12 _ _ _) (ci := 0) rfl inlX0 (j := 3) (by decide) rfl tw_134 (Or.inl rfl) dX7_closePause_2 ?_
  refine q_aload_n (pc := 5) C dX7_closePause_5 rfl 0 rfl ?_
  refine q_get (pc := 6) (T := TX0) (v := .int (S 12 2)) C (by decide) (ce_12 _ _ _) (ci := 0) rfl inlX0 (j := 2) (by decide) rfl tw_133 (Or.inl rfl) dX7_closePause_6 ?_
  refine q_aload_n (pc := 9) C dX7_closePause_9 rfl 0 rfl ?_
  refine q_get (pc := 10) (T := TX0) (v := .int (S 12 6)) C (by decide) (ce_12 _ _ _) (ci := 0) rfl inlX0 (j := 6) (by decide) rfl tw_137 (Or.inl rfl) dX7_closePause_10 ?_
  refine q_isub (pc := 13) C dX7_closePause_13 ?_
  refine q_max (pc := 14) C tw_642 tw_643 tw_644 tw_645 (by decide) (Nat.le_of_ble_eq_true rfl) dX7_closePause_14 ?_
  refine q_put (pc := 17) (T := TX0) (ty := .int) C tyX0 tyX0_ok nmX0 (by decide) (ce_12 _ _ _) (pe_12_3 _ _ _ _) (ci := 0) rfl inlX0 (j := 3) (by decide) (Nat.le_of_ble_eq_true rfl) tw_134 (Or.inl rfl) rfl (by decide +kernel) rfl rfl dX7_closePause_17 ?_
  cases hm
  exact q_vret (pc := 20) C dX7_closePause_20
set_option maxRecDepth 100000 in
theorem c_St_closePause_18 {G : Gx} (hi : qinj (gad G)) {S : St}  {zS : St} (hm : m_St_closePause 18 0 S  = some zS) : QMet G yX7_closePause cX7_closePause 1 none 1 21 [.ref (gad G 18)] S none zS := by
  refine q_entry (by decide +kernel) rfl hi (Nat.le_of_ble_eq_true rfl) ?_
  intro X C
  refine q_lv (lv' := [(0, .ref (gad G 18))]) [0] rfl ?_
  unfold m_St_closePause at hm
  refine q_aload_n (pc := 0) C dX7_closePause_0 rfl 0 rfl ?_
  refine q_aload_n (pc := 1) C dX7_closePause_1 rfl 0 rfl ?_
  refine q_get (pc := 2) (T := TX4) (v := .int (S 18 3)) C (by decide) (ce_18 _ _ _) (ci := 4) rfl inlX4 (j := 3) (by decide) rfl tw_134 (Or.inl rfl) dX7_closePause_2 ?_
  refine q_aload_n (pc := 5) C dX7_closePause_5 rfl 0 rfl ?_
  refine q_get (pc := 6) (T := TX4) (v := .int (S 18 2)) C (by decide) (ce_18 _ _ _) (ci := 4) rfl inlX4 (j := 2) (by decide) rfl tw_133 (Or.inl rfl) dX7_closePause_6 ?_
  refine q_aload_n (pc := 9) C dX7_closePause_9 rfl 0 rfl ?_
  refine q_get (pc := 10) (T := TX4) (v := .int (S 18 6)) C (by decide) (ce_18 _ _ _) (ci := 4) rfl inlX4 (j := 6) (by decide) rfl tw_137 (Or.inl rfl) dX7_closePause_10 ?_
  refine q_isub (pc := 13) C dX7_closePause_13 ?_
  refine q_max (pc := 14) C tw_642 tw_643 tw_644 tw_645 (by decide) (Nat.le_of_ble_eq_true rfl) dX7_closePause_14 ?_
  refine q_put (pc := 17) (T := TX4) (ty := .int) C tyX4 tyX4_ok nmX4 (by decide) (ce_18 _ _ _) (pe_18_3 _ _ _ _) (ci := 4) rfl inlX4 (j := 3) (by decide) (Nat.le_of_ble_eq_true rfl) tw_134 (Or.inl rfl) rfl (by decide +kernel) rfl rfl dX7_closePause_17 ?_
  cases hm
  exact q_vret (pc := 20) C dX7_closePause_20
set_option maxRecDepth 100000 in
theorem c_St_closePause_31 {G : Gx} (hi : qinj (gad G)) {S : St}  {zS : St} (hm : m_St_closePause 31 1 S  = some zS) : QMet G yX7_closePause cX7_closePause 1 none 1 21 [.ref (gad G 31)] S none zS := by
  refine q_entry (by decide +kernel) rfl hi (Nat.le_of_ble_eq_true rfl) ?_
  intro X C
  refine q_lv (lv' := [(0, .ref (gad G 31))]) [0] rfl ?_
  unfold m_St_closePause at hm
  refine q_aload_n (pc := 0) C dX7_closePause_0 rfl 0 rfl ?_
  refine q_aload_n (pc := 1) C dX7_closePause_1 rfl 0 rfl ?_
  refine q_get (pc := 2) (T := TX3) (v := .int (S 31 4)) C (by decide) (ce_31 _ _ _) (ci := 3) rfl inlX3 (j := 4) (by decide) rfl tw_134 (Or.inl rfl) dX7_closePause_2 ?_
  refine q_aload_n (pc := 5) C dX7_closePause_5 rfl 0 rfl ?_
  refine q_get (pc := 6) (T := TX3) (v := .int (S 31 3)) C (by decide) (ce_31 _ _ _) (ci := 3) rfl inlX3 (j := 3) (by decide) rfl tw_133 (Or.inl rfl) dX7_closePause_6 ?_
  refine q_aload_n (pc := 9) C dX7_closePause_9 rfl 0 rfl ?_
  refine q_get (pc := 10) (T := TX3) (v := .int (S 31 7)) C (by decide) (ce_31 _ _ _) (ci := 3) rfl inlX3 (j := 7) (by decide) rfl tw_137 (Or.inl rfl) dX7_closePause_10 ?_
  refine q_isub (pc := 13) C dX7_closePause_13 ?_
  refine q_max (pc := 14) C tw_642 tw_643 tw_644 tw_645 (by decide) (Nat.le_of_ble_eq_true rfl) dX7_closePause_14 ?_
  refine q_put (pc := 17) (T := TX3) (ty := .int) C tyX3 tyX3_ok nmX3 (by decide) (ce_31 _ _ _) (pe_31_4 _ _ _ _) (ci := 3) rfl inlX3 (j := 4) (by decide) (Nat.le_of_ble_eq_true rfl) tw_134 (Or.inl rfl) rfl (by decide +kernel) rfl rfl dX7_closePause_17 ?_
  cases hm
  exact q_vret (pc := 20) C dX7_closePause_20
set_option maxRecDepth 100000 in
theorem c_St_closePause_42 {G : Gx} (hi : qinj (gad G)) {S : St}  {zS : St} (hm : m_St_closePause 42 1 S  = some zS) : QMet G yX7_closePause cX7_closePause 1 none 1 21 [.ref (gad G 42)] S none zS := by
  refine q_entry (by decide +kernel) rfl hi (Nat.le_of_ble_eq_true rfl) ?_
  intro X C
  refine q_lv (lv' := [(0, .ref (gad G 42))]) [0] rfl ?_
  unfold m_St_closePause at hm
  refine q_aload_n (pc := 0) C dX7_closePause_0 rfl 0 rfl ?_
  refine q_aload_n (pc := 1) C dX7_closePause_1 rfl 0 rfl ?_
  refine q_get (pc := 2) (T := TX1) (v := .int (S 42 4)) C (by decide) (ce_42 _ _ _) (ci := 1) rfl inlX1 (j := 4) (by decide) rfl tw_134 (Or.inl rfl) dX7_closePause_2 ?_
  refine q_aload_n (pc := 5) C dX7_closePause_5 rfl 0 rfl ?_
  refine q_get (pc := 6) (T := TX1) (v := .int (S 42 3)) C (by decide) (ce_42 _ _ _) (ci := 1) rfl inlX1 (j := 3) (by decide) rfl tw_133 (Or.inl rfl) dX7_closePause_6 ?_
  refine q_aload_n (pc := 9) C dX7_closePause_9 rfl 0 rfl ?_
  refine q_get (pc := 10) (T := TX1) (v := .int (S 42 7)) C (by decide) (ce_42 _ _ _) (ci := 1) rfl inlX1 (j := 7) (by decide) rfl tw_137 (Or.inl rfl) dX7_closePause_10 ?_
  refine q_isub (pc := 13) C dX7_closePause_13 ?_
  refine q_max (pc := 14) C tw_642 tw_643 tw_644 tw_645 (by decide) (Nat.le_of_ble_eq_true rfl) dX7_closePause_14 ?_
  refine q_put (pc := 17) (T := TX1) (ty := .int) C tyX1 tyX1_ok nmX1 (by decide) (ce_42 _ _ _) (pe_42_4 _ _ _ _) (ci := 1) rfl inlX1 (j := 4) (by decide) (Nat.le_of_ble_eq_true rfl) tw_134 (Or.inl rfl) rfl (by decide +kernel) rfl rfl dX7_closePause_17 ?_
  cases hm
  exact q_vret (pc := 20) C dX7_closePause_20
set_option maxRecDepth 100000 in
theorem c_Te_closePauses {G : Gx} (hi : qinj (gad G)) {S : St}  {zS : St} (hm : m_Te_closePauses S  = some zS) : QMet G yX8_closePauses cX8_closePauses 2 none 2 41 [.ref (gad G 0)] S none zS := by
  refine q_entry (by decide +kernel) rfl hi (Nat.le_of_ble_eq_true rfl) ?_
  intro X C
  refine q_lv (lv' := [(0, .ref (gad G 0))]) [0] rfl ?_
  unfold m_Te_closePauses at hm
  refine q_iconst (pc := 0) (v := (0 : Int32)) C dX8_closePauses_0 (by decide) ?_
  refine q_istore_n (pc := 1) (lv' := [(1, .int (0 : Int32)), (0, .ref (gad G 0))]) C dX8_closePauses_1 rfl (by decide) rfl ?_
  refine q_iload_n (pc := 2) C dX8_closePauses_2 rfl 0 rfl ?_
  refine q_iconst (pc := 3) (v := (4 : Int32)) C dX8_closePauses_3 (by decide) ?_
  refine q_icmp_ge (pc := 4) (tgt := 22) C dX8_closePauses_4 (by decide) (fun c => absurd c (by decide)) (fun _ => ?_)
  refine q_aload_n (pc := 7) C dX8_closePauses_7 rfl 1 rfl ?_
  refine q_get (pc := 8) (T := TX8) (v := .ref (gad G 58)) C (by decide) (ce_0 _ _ _) (ci := 6) rfl inlX8 (j := 4) (by decide) rfl tw_31 (Or.inl rfl) dX8_closePauses_8 ?_
  refine q_iload_n (pc := 11) C dX8_closePauses_11 rfl 0 rfl ?_
  refine q_aald (pc := 12) (k := 12) (n := 0) C (by decide) (by decide) rfl dX8_closePauses_12 ?_
  obtain ⟨S1, h1, hm⟩ := o1_some hm
  refine q_callU (pc := 13) (k := 12) (As := []) (rest := []) (T := TX0) (owner := "Tessera$Store") (x := ⟨"Tessera$Store", "closePause", "()V"⟩) C (c_St_closePause_12 hi h1) (by decide) (ce_12 _ _ _) (ci := 0) rfl (Or.inl rfl) tw_637 tw_638 tw_640 tw_639 tw_62 tw_641 (nA := 0) (by decide +kernel) rfl (by decide) (Nat.le_of_ble_eq_true rfl) rfl dX8_closePauses_13 ?_
  refine q_iinc (pc := 16) (k := 0) (v := (1 : Int32)) (lv' := [(1, .int (1 : Int32)), (0, .ref (gad G 0))]) C dX8_closePauses_16 rfl (by decide) (by decide) rfl ?_
  refine q_goto (pc := 19) (tgt := 2) C dX8_closePauses_19 (by decide) ?_
  refine q_iload_n (pc := 2) C dX8_closePauses_2 rfl 0 rfl ?_
  refine q_iconst (pc := 3) (v := (4 : Int32)) C dX8_closePauses_3 (by decide) ?_
  refine q_icmp_ge (pc := 4) (tgt := 22) C dX8_closePauses_4 (by decide) (fun c => absurd c (by decide)) (fun _ => ?_)
  refine q_aload_n (pc := 7) C dX8_closePauses_7 rfl 1 rfl ?_
  refine q_get (pc := 8) (T := TX8) (v := .ref (gad G 58)) C (by decide) (ce_0 _ _ _) (ci := 6) rfl inlX8 (j := 4) (by decide) rfl tw_31 (Or.inl rfl) dX8_closePauses_8 ?_
  refine q_iload_n (pc := 11) C dX8_closePauses_11 rfl 0 rfl ?_
  refine q_aald (pc := 12) (k := 18) (n := 1) C (by decide) (by decide) rfl dX8_closePauses_12 ?_
  obtain ⟨S2, h2, hm⟩ := o1_some hm
  refine q_callU (pc := 13) (k := 18) (As := []) (rest := []) (T := TX4) (owner := "Tessera$Store") (x := ⟨"Tessera$Store", "closePause", "()V"⟩) C (c_St_closePause_18 hi h2) (by decide) (ce_18 _ _ _) (ci := 4) rfl (Or.inl rfl) tw_637 tw_638 tw_640 tw_648 tw_62 tw_641 (nA := 0) (by decide +kernel) rfl (by decide) (Nat.le_of_ble_eq_true rfl) rfl dX8_closePauses_13 ?_
  refine q_iinc (pc := 16) (k := 0) (v := (2 : Int32)) (lv' := [(1, .int (2 : Int32)), (0, .ref (gad G 0))]) C dX8_closePauses_16 rfl (by decide) (by decide) rfl ?_
  refine q_goto (pc := 19) (tgt := 2) C dX8_closePauses_19 (by decide) ?_
  refine q_iload_n (pc := 2) C dX8_closePauses_2 rfl 0 rfl ?_
  refine q_iconst (pc := 3) (v := (4 : Int32)) C dX8_closePauses_3 (by decide) ?_
  refine q_icmp_ge (pc := 4) (tgt := 22) C dX8_closePauses_4 (by decide) (fun c => absurd c (by decide)) (fun _ => ?_)
  refine q_aload_n (pc := 7) C dX8_closePauses_7 rfl 1 rfl ?_
  refine q_get (pc := 8) (T := TX8) (v := .ref (gad G 58)) C (by decide) (ce_0 _ _ _) (ci := 6) rfl inlX8 (j := 4) (by decide) rfl tw_31 (Or.inl rfl) dX8_closePauses_8 ?_
  refine q_iload_n (pc := 11) C dX8_closePauses_11 rfl 0 rfl ?_
  refine q_aald (pc := 12) (k := 31) (n := 2) C (by decide) (by decide) rfl dX8_closePauses_12 ?_
  obtain ⟨S3, h3, hm⟩ := o1_some hm
  refine q_callU (pc := 13) (k := 31) (As := []) (rest := []) (T := TX3) (owner := "Tessera$Store") (x := ⟨"Tessera$Store", "closePause", "()V"⟩) C (c_St_closePause_31 hi h3) (by decide) (ce_31 _ _ _) (ci := 3) rfl (Or.inl rfl) tw_637 tw_638 tw_640 tw_647 tw_62 tw_641 (nA := 0) (by decide +kernel) rfl (by decide) (Nat.le_of_ble_eq_true rfl) rfl dX8_closePauses_13 ?_
  refine q_iinc (pc := 16) (k := 0) (v := (3 : Int32)) (lv' := [(1, .int (3 : Int32)), (0, .ref (gad G 0))]) C dX8_closePauses_16 rfl (by decide) (by decide) rfl ?_
  refine q_goto (pc := 19) (tgt := 2) C dX8_closePauses_19 (by decide) ?_
  refine q_iload_n (pc := 2) C dX8_closePauses_2 rfl 0 rfl ?_
  refine q_iconst (pc := 3) (v := (4 : Int32)) C dX8_closePauses_3 (by decide) ?_
  refine q_icmp_ge (pc := 4) (tgt := 22) C dX8_closePauses_4 (by decide) (fun c => absurd c (by decide)) (fun _ => ?_)
  refine q_aload_n (pc := 7) C dX8_closePauses_7 rfl 1 rfl ?_
  refine q_get (pc := 8) (T := TX8) (v := .ref (gad G 58)) C (by decide) (ce_0 _ _ _) (ci := 6) rfl inlX8 (j := 4) (by decide) rfl tw_31 (Or.inl rfl) dX8_closePauses_8 ?_
  refine q_iload_n (pc := 11) C dX8_closePauses_11 rfl 0 rfl ?_
  refine q_aald (pc := 12) (k := 42) (n := 3) C (by decide) (by decide) rfl dX8_closePauses_12 ?_
  obtain ⟨S4, h4, hm⟩ := o1_some hm
  refine q_callU (pc := 13) (k := 42) (As := []) (rest := []) (T := TX1) (owner := "Tessera$Store") (x := ⟨"Tessera$Store", "closePause", "()V"⟩) C (c_St_closePause_42 hi h4) (by decide) (ce_42 _ _ _) (ci := 1) rfl (Or.inl rfl) tw_637 tw_638 tw_640 tw_646 tw_62 tw_641 (nA := 0) (by decide +kernel) rfl (by decide) (Nat.le_of_ble_eq_true rfl) rfl dX8_closePauses_13 ?_
  refine q_iinc (pc := 16) (k := 0) (v := (4 : Int32)) (lv' := [(1, .int (4 : Int32)), (0, .ref (gad G 0))]) C dX8_closePauses_16 rfl (by decide) (by decide) rfl ?_
  refine q_goto (pc := 19) (tgt := 2) C dX8_closePauses_19 (by decide) ?_
  refine q_iload_n (pc := 2) C dX8_closePauses_2 rfl 0 rfl ?_
  refine q_iconst (pc := 3) (v := (4 : Int32)) C dX8_closePauses_3 (by decide) ?_
  refine q_icmp_ge (pc := 4) (tgt := 22) C dX8_closePauses_4 (by decide) (fun _ => ?_) (fun c => absurd c (by decide))
  cases hm
  exact q_vret (pc := 22) C dX8_closePauses_22
set_option maxRecDepth 100000 in
theorem c_Gr_wordsOf {G : Gx} (hi : qinj (gad G)) {S : St} {a1 : Int32} {zr : Int32} (hm : m_Gr_wordsOf S a1 = some zr) : QMet G yX2_wordsOf cX2_wordsOf 2 (some .int) 0 0 [.ref (gad G 1), .int a1] S (some (.int zr)) S := by
  refine q_entry (by decide +kernel) rfl hi (Nat.le_of_ble_eq_true rfl) ?_
  intro X C
  refine q_lv (lv' := [(0, .ref (gad G 1)), (1, .int a1)]) [0, 1] rfl ?_
  unfold m_Gr_wordsOf at hm
  refine q_iload_n (pc := 0) C dX2_wordsOf_0 rfl 1 rfl ?_
  refine q_if_lt (pc := 1) (tgt := 23) C dX2_wordsOf_1 (by decide) (fun c1 => ?_) (fun c1 => ?_)
  · replace hm := hm_t c1 hm
    refine q_iconst (pc := 23) (v := (0 : Int32)) C dX2_wordsOf_23 (by decide) ?_
    cases hm
    exact q_iret (pc := 24) C dX2_wordsOf_24
  · replace hm := hm_f c1 hm
    refine q_iload_n (pc := 4) C dX2_wordsOf_4 rfl 1 rfl ?_
    refine q_aload_n (pc := 5) C dX2_wordsOf_5 rfl 0 rfl ?_
    refine q_get (pc := 6) (T := TX2) (v := .int (S 1 6)) C (by decide) (ce_1 _ _ _) (ci := 2) rfl inlX2 (j := 6) (by decide) rfl tw_118 (Or.inl rfl) dX2_wordsOf_6 ?_
    refine q_icmp_ge (pc := 9) (tgt := 23) C dX2_wordsOf_9 (by decide) (fun c2 => ?_) (fun c2 => ?_)
    · replace hm := hm_t c2 hm
      refine q_iconst (pc := 23) (v := (0 : Int32)) C dX2_wordsOf_23 (by decide) ?_
      cases hm
      exact q_iret (pc := 24) C dX2_wordsOf_24
    · replace hm := hm_f c2 hm
      refine q_aload_n (pc := 12) C dX2_wordsOf_12 rfl 0 rfl ?_
      refine q_get (pc := 13) (T := TX2) (v := .ref (gad G 2)) C (by decide) (ce_1 _ _ _) (ci := 2) rfl inlX2 (j := 0) (by decide) rfl tw_37 (Or.inl rfl) dX2_wordsOf_13 ?_
      refine q_iload_n (pc := 16) C dX2_wordsOf_16 rfl 1 rfl ?_
      obtain ⟨b1, hm⟩ := oi_some hm
      refine q_iald (pc := 17) C (by decide) (ce_2 _ _ _) (ty_2 _) b1 dX2_wordsOf_17 ?_
      refine q_iconst (pc := 18) (v := (1 : Int32)) C dX2_wordsOf_18 (by decide) ?_
      refine q_iadd (pc := 19) C dX2_wordsOf_19 ?_
      refine q_goto (pc := 20) (tgt := 24) C dX2_wordsOf_20 (by decide) ?_
      cases hm
      exact q_iret (pc := 24) C dX2_wordsOf_24
set_option maxRecDepth 100000 in
theorem c_St_placeOf_42 {G : Gx} (hi : qinj (gad G)) {S : St} {a1 : Int32} {zr : Int32} (hm : m_St_placeOf 42 1 S a1 = some zr) : QMet G yX7_placeOf cX7_placeOf 2 (some .int) 1 21 [.ref (gad G 42), .int a1] S (some (.int zr)) S := by
  refine q_entry (by decide +kernel) rfl hi (Nat.le_of_ble_eq_true rfl) ?_
  intro X C
  refine q_lv (lv' := [(0, .ref (gad G 42)), (1, .int a1)]) [0, 1] rfl ?_
  unfold m_St_placeOf at hm
  refine q_aload_n (pc := 0) C dX7_placeOf_0 rfl 0 rfl ?_
  refine q_iload_n (pc := 1) C dX7_placeOf_1 rfl 1 rfl ?_
  obtain ⟨r1, h1, hm⟩ := o1_some hm
  refine q_callU (pc := 2) (k := 42) (As := [.int a1]) (rest := []) (T := TX1) (owner := "Tessera$Store") (x := ⟨"Tessera$Store", "has", "(I)Z"⟩) C (c_St_has_42 hi h1) (by decide) (ce_42 _ _ _) (ci := 1) rfl (Or.inl rfl) tw_253 tw_254 tw_256 tw_258 tw_62 tw_257 (nA := 1) (by decide +kernel) rfl (by decide) (Nat.le_of_ble_eq_true rfl) rfl dX7_placeOf_2 ?_
  refine q_if_eq (pc := 5) (tgt := 17) C dX7_placeOf_5 (by decide) (fun c1 => ?_) (fun c1 => ?_)
  · replace hm := hm_t c1 hm
    refine q_iconst (pc := 17) (v := (-1 : Int32)) C dX7_placeOf_17 (by decide) ?_
    cases hm
    exact q_iret (pc := 18) C dX7_placeOf_18
  · replace hm := hm_f c1 hm
    refine q_aload_n (pc := 8) C dX7_placeOf_8 rfl 0 rfl ?_
    refine q_get (pc := 9) (T := TX1) (v := .ref (gad G 44)) C (by decide) (ce_42 _ _ _) (ci := 1) rfl inlX1 (j := 9) (by decide) rfl tw_66 (Or.inl rfl) dX7_placeOf_9 ?_
    refine q_iload_n (pc := 12) C dX7_placeOf_12 rfl 1 rfl ?_
    obtain ⟨b1, hm⟩ := oi_some hm
    refine q_iald (pc := 13) C (by decide) (ce_44 _ _ _) (ty_44 _) b1 dX7_placeOf_13 ?_
    refine q_goto (pc := 14) (tgt := 18) C dX7_placeOf_14 (by decide) ?_
    cases hm
    exact q_iret (pc := 18) C dX7_placeOf_18
set_option maxRecDepth 100000 in
theorem w_Sc_markTakenBy_42_L20 {G : Gx} (hi : qinj (gad G)) {X : Cx} (C : QC G X cX6_markTakenBy 5 RX6 2 42 none) {Q : State → Prop} : ∀ (n : Nat) (S : St) (v3 : Int32) (v4 : Int32) (zS : St), m_Sc_markTakenBy_L20 42 n S v3 v4 = some zS → QW G X 5 Q 53 [] [] zS → QW G X 5 Q 20 [(0, .ref (gad G 42)), (3, .int v3), (4, .int v4)] [] S := by
  intro n
  induction n with
  | zero =>
    intro S v3 v4 zS hm kk
    rw [m_Sc_markTakenBy_L20] at hm
    cases hm
  | succ n ih =>
    intro S v3 v4 zS hm kk
    rw [m_Sc_markTakenBy_L20] at hm
    refine q_iload (pc := 20) C dX6_markTakenBy_20 2 rfl ?_
    refine q_if_lt (pc := 22) (tgt := 53) C dX6_markTakenBy_22 (by decide) (fun c1 => ?_) (fun c1 => ?_)
    · replace hm := hm_t c1 hm
      cases hm
      refine q_lv (lv' := []) [] rfl ?_
      exact kk
    · replace hm := hm_f c1 hm
      refine q_iload (pc := 25) C dX6_markTakenBy_25 2 rfl ?_
      refine q_iload_n (pc := 27) C dX6_markTakenBy_27 rfl 1 rfl ?_
      refine q_icmp_ge (pc := 28) (tgt := 53) C dX6_markTakenBy_28 (by decide) (fun c2 => ?_) (fun c2 => ?_)
      · replace hm := hm_t c2 hm
        cases hm
        refine q_lv (lv' := []) [] rfl ?_
        exact kk
      · replace hm := hm_f c2 hm
        refine q_iload (pc := 31) C dX6_markTakenBy_31 2 rfl ?_
        refine q_sipush (pc := 33) (v := (160 : Int32)) C dX6_markTakenBy_33 (by decide) ?_
        refine q_icmp_ge (pc := 36) (tgt := 53) C dX6_markTakenBy_36 (by decide) (fun c3 => ?_) (fun c3 => ?_)
        · replace hm := hm_t c3 hm
          cases hm
          refine q_lv (lv' := []) [] rfl ?_
          exact kk
        · replace hm := hm_f c3 hm
          refine q_aload_n (pc := 39) C dX6_markTakenBy_39 rfl 0 rfl ?_
          refine q_get (pc := 40) (T := TX1) (v := .ref (gad G 45)) C (by decide) (ce_42 _ _ _) (ci := 1) rfl inlX1 (j := 0) (by decide) rfl tw_80 (Or.inl rfl) dX6_markTakenBy_40 ?_
          refine q_iload (pc := 43) C dX6_markTakenBy_43 2 rfl ?_
          refine q_iconst (pc := 45) (v := (1 : Int32)) C dX6_markTakenBy_45 (by decide) ?_
          obtain ⟨b1, hm⟩ := oi_some hm
          refine q_zast1 (pc := 46) C (by decide) (fun _ => ce_45 _ _ _) (ty_45 _) b1 dX6_markTakenBy_46 ?_
          refine q_iinc (pc := 47) (k := 2) (v := (v4 + (1 : Int32))) (lv' := [(4, .int (v4 + (1 : Int32))), (0, .ref (gad G 42)), (3, .int v3)]) C dX6_markTakenBy_47 rfl rfl (by decide) rfl ?_
          refine q_goto (pc := 50) (tgt := 20) C dX6_markTakenBy_50 (by decide) ?_
          refine q_lv (lv' := [(0, .ref (gad G 42)), (3, .int v3), (4, .int (v4 + (1 : Int32)))]) [1, 2, 0] rfl ?_
          exact ih _ _ _ _ hm kk
set_option maxRecDepth 100000 in
theorem c_Sc_markTakenBy_42 {G : Gx} (hi : qinj (gad G)) {S : St} {a1 : Int32} {zS : St} (hm : m_Sc_markTakenBy 42 S a1 = some zS) : QMet G yX6_markTakenBy cX6_markTakenBy 5 none 2 42 [.ref (gad G 42), .int a1] S none zS := by
  refine q_entry (by decide +kernel) rfl hi (Nat.le_of_ble_eq_true rfl) ?_
  intro X C
  refine q_lv (lv' := [(0, .ref (gad G 42)), (1, .int a1)]) [0, 1] rfl ?_
  unfold m_Sc_markTakenBy at hm
  refine q_aload_n (pc := 0) C dX6_markTakenBy_0 rfl 0 rfl ?_
  refine q_iload_n (pc := 1) C dX6_markTakenBy_1 rfl 1 rfl ?_
  obtain ⟨r1, h1, hm⟩ := o1_some hm
  refine q_callU (pc := 2) (k := 42) (As := [.int a1]) (rest := []) (T := TX1) (owner := "Tessera$Store") (x := ⟨"Tessera$Scattered", "placeOf", "(I)I"⟩) C (c_St_placeOf_42 hi h1) (by decide) (ce_42 _ _ _) (ci := 1) rfl (Or.inl rfl) tw_338 tw_339 tw_341 tw_340 tw_62 tw_342 (nA := 1) (by decide +kernel) rfl (by decide) (Nat.le_of_ble_eq_true rfl) rfl dX6_markTakenBy_2 ?_
  refine q_istore_n (pc := 5) (lv' := [(2, .int r1), (0, .ref (gad G 42)), (1, .int a1)]) C dX6_markTakenBy_5 rfl (by decide) rfl ?_
  refine q_iload_n (pc := 6) C dX6_markTakenBy_6 rfl 0 rfl ?_
  refine q_aload_n (pc := 7) C dX6_markTakenBy_7 rfl 1 rfl ?_
  refine q_get (pc := 8) (T := TX1) (v := .ref (gad G 1)) C (by decide) (ce_42 _ _ _) (ci := 1) rfl inlX1 (j := 1) (by decide) rfl tw_318 (Or.inr tw_319) dX6_markTakenBy_8 ?_
  refine q_iload_n (pc := 11) C dX6_markTakenBy_11 rfl 2 rfl ?_
  obtain ⟨r2, h2, hm⟩ := o1_some hm
  refine q_callV (pc := 12) (k := 1) (As := [.int a1]) (rest := [.int r1]) (T := TX2) C (c_Gr_wordsOf hi h2) (by decide) (ce_1 _ _ _) (ci := 2) rfl tw_322 tw_229 tw_230 tw_13 tw_231 (nA := 1) (by decide +kernel) rfl (by decide) (Nat.le_of_ble_eq_true rfl) rfl dX6_markTakenBy_12 ?_
  refine q_iadd (pc := 15) C dX6_markTakenBy_15 ?_
  refine q_istore_n (pc := 16) (lv' := [(3, .int (r1 + r2)), (2, .int r1), (0, .ref (gad G 42)), (1, .int a1)]) C dX6_markTakenBy_16 rfl (by decide) rfl ?_
  refine q_iload_n (pc := 17) C dX6_markTakenBy_17 rfl 1 rfl ?_
  refine q_istore (pc := 18) (lv' := [(4, .int r1), (3, .int (r1 + r2)), (2, .int r1), (0, .ref (gad G 42)), (1, .int a1)]) C dX6_markTakenBy_18 (by decide) rfl ?_
  refine q_lv (lv' := [(0, .ref (gad G 42)), (3, .int (r1 + r2)), (4, .int r1)]) [3, 1, 0] rfl ?_
  obtain ⟨S1, h3, hm⟩ := o1_some hm
  refine w_Sc_markTakenBy_42_L20 hi C 200 _ _ _ _ h3 ?_
  cases hm
  exact q_vret (pc := 53) C dX6_markTakenBy_53
set_option maxRecDepth 100000 in
theorem w_Sc_markTaken_42_L2 {G : Gx} (hi : qinj (gad G)) {X : Cx} (C : QC G X cX6_markTaken 2 RX6 3 66 none) {Q : State → Prop} : ∀ (n : Nat) (S : St) (v1 : Int32) (zS : St), m_Sc_markTaken_L2 42 n S v1 = some zS → QW G X 2 Q 22 [(0, .ref (gad G 42))] [] zS → QW G X 2 Q 2 [(0, .ref (gad G 42)), (1, .int v1)] [] S := by
  intro n
  induction n with
  | zero =>
    intro S v1 zS hm kk
    rw [m_Sc_markTaken_L2] at hm
    cases hm
  | succ n ih =>
    intro S v1 zS hm kk
    rw [m_Sc_markTaken_L2] at hm
    refine q_iload_n (pc := 2) C dX6_markTaken_2 rfl 1 rfl ?_
    refine q_sipush (pc := 3) (v := (160 : Int32)) C dX6_markTaken_3 (by decide) ?_
    refine q_icmp_ge (pc := 6) (tgt := 22) C dX6_markTaken_6 (by decide) (fun c1 => ?_) (fun c1 => ?_)
    · replace hm := hm_t c1 hm
      cases hm
      refine q_lv (lv' := [(0, .ref (gad G 42))]) [0] rfl ?_
      exact kk
    · replace hm := hm_f c1 hm
      refine q_aload_n (pc := 9) C dX6_markTaken_9 rfl 0 rfl ?_
      refine q_get (pc := 10) (T := TX1) (v := .ref (gad G 45)) C (by decide) (ce_42 _ _ _) (ci := 1) rfl inlX1 (j := 0) (by decide) rfl tw_80 (Or.inl rfl) dX6_markTaken_10 ?_
      refine q_iload_n (pc := 13) C dX6_markTaken_13 rfl 1 rfl ?_
      refine q_iconst (pc := 14) (v := (0 : Int32)) C dX6_markTaken_14 (by decide) ?_
      obtain ⟨b1, hm⟩ := oi_some hm
      refine q_zast0 (pc := 15) C (by decide) (fun _ => ce_45 _ _ _) (ty_45 _) b1 dX6_markTaken_15 ?_
      refine q_iinc (pc := 16) (k := 1) (v := (v1 + (1 : Int32))) (lv' := [(1, .int (v1 + (1 : Int32))), (0, .ref (gad G 42))]) C dX6_markTaken_16 rfl rfl (by decide) rfl ?_
      refine q_goto (pc := 19) (tgt := 2) C dX6_markTaken_19 (by decide) ?_
      refine q_lv (lv' := [(0, .ref (gad G 42)), (1, .int (v1 + (1 : Int32)))]) [1, 0] rfl ?_
      exact ih _ _ _ hm kk
set_option maxRecDepth 100000 in
theorem w_Sc_markTaken_42_L24 {G : Gx} (hi : qinj (gad G)) {X : Cx} (C : QC G X cX6_markTaken 2 RX6 3 66 none) {Q : State → Prop} : ∀ (n : Nat) (S : St) (v1 : Int32) (zS : St), m_Sc_markTaken_L24 42 n S v1 = some zS → QW G X 2 Q 54 [] [] zS → QW G X 2 Q 24 [(0, .ref (gad G 42)), (1, .int v1)] [] S := by
  intro n
  induction n with
  | zero =>
    intro S v1 zS hm kk
    rw [m_Sc_markTaken_L24] at hm
    cases hm
  | succ n ih =>
    intro S v1 zS hm kk
    rw [m_Sc_markTaken_L24] at hm
    refine q_iload_n (pc := 24) C dX6_markTaken_24 rfl 1 rfl ?_
    refine q_aload_n (pc := 25) C dX6_markTaken_25 rfl 0 rfl ?_
    refine q_get (pc := 26) (T := TX1) (v := .ref (gad G 1)) C (by decide) (ce_42 _ _ _) (ci := 1) rfl inlX1 (j := 1) (by decide) rfl tw_318 (Or.inr tw_319) dX6_markTaken_26 ?_
    refine q_get (pc := 29) (T := TX2) (v := .int (S 1 6)) C (by decide) (ce_1 _ _ _) (ci := 2) rfl inlX2 (j := 6) (by decide) rfl tw_328 (Or.inl rfl) dX6_markTaken_29 ?_
    refine q_icmp_ge (pc := 32) (tgt := 54) C dX6_markTaken_32 (by decide) (fun c1 => ?_) (fun c1 => ?_)
    · replace hm := hm_t c1 hm
      cases hm
      refine q_lv (lv' := []) [] rfl ?_
      exact kk
    · replace hm := hm_f c1 hm
      refine q_aload_n (pc := 35) C dX6_markTaken_35 rfl 0 rfl ?_
      refine q_iload_n (pc := 36) C dX6_markTaken_36 rfl 1 rfl ?_
      obtain ⟨r1, h1, hm⟩ := o1_some hm
      refine q_callU (pc := 37) (k := 42) (As := [.int v1]) (rest := []) (T := TX1) (owner := "Tessera$Store") (x := ⟨"Tessera$Scattered", "has", "(I)Z"⟩) C (c_St_has_42 hi h1) (by decide) (ce_42 _ _ _) (ci := 1) rfl (Or.inl rfl) tw_329 tw_330 tw_256 tw_331 tw_62 tw_257 (nA := 1) (by decide +kernel) rfl (by decide) (Nat.le_of_ble_eq_true rfl) rfl dX6_markTaken_37 ?_
      refine q_if_eq (pc := 40) (tgt := 48) C dX6_markTaken_40 (by decide) (fun c2 => ?_) (fun c2 => ?_)
      · replace hm := hm_t c2 hm
        refine q_iinc (pc := 48) (k := 1) (v := (v1 + (1 : Int32))) (lv' := [(1, .int (v1 + (1 : Int32))), (0, .ref (gad G 42))]) C dX6_markTaken_48 rfl rfl (by decide) rfl ?_
        refine q_goto (pc := 51) (tgt := 24) C dX6_markTaken_51 (by decide) ?_
        refine q_lv (lv' := [(0, .ref (gad G 42)), (1, .int (v1 + (1 : Int32)))]) [1, 0] rfl ?_
        exact ih _ _ _ hm kk
      · replace hm := hm_f c2 hm
        refine q_aload_n (pc := 43) C dX6_markTaken_43 rfl 0 rfl ?_
        refine q_iload_n (pc := 44) C dX6_markTaken_44 rfl 1 rfl ?_
        obtain ⟨S1, h2, hm⟩ := o1_some hm
        refine q_callU (pc := 45) (k := 42) (As := [.int v1]) (rest := []) (T := TX1) (owner := "Tessera$Scattered") (x := ⟨"Tessera$Scattered", "markTakenBy", "(I)V"⟩) C (c_Sc_markTakenBy_42 hi h2) (by decide) (ce_42 _ _ _) (ci := 1) rfl (Or.inl rfl) tw_333 tw_334 tw_336 tw_335 tw_78 tw_337 (nA := 1) (by decide +kernel) rfl (by decide) (Nat.le_of_ble_eq_true rfl) rfl dX6_markTaken_45 ?_
        refine q_iinc (pc := 48) (k := 1) (v := (v1 + (1 : Int32))) (lv' := [(1, .int (v1 + (1 : Int32))), (0, .ref (gad G 42))]) C dX6_markTaken_48 rfl rfl (by decide) rfl ?_
        refine q_goto (pc := 51) (tgt := 24) C dX6_markTaken_51 (by decide) ?_
        refine q_lv (lv' := [(0, .ref (gad G 42)), (1, .int (v1 + (1 : Int32)))]) [1, 0] rfl ?_
        exact ih _ _ _ hm kk
set_option maxRecDepth 100000 in
theorem c_Sc_markTaken_42 {G : Gx} (hi : qinj (gad G)) {S : St}  {zS : St} (hm : m_Sc_markTaken 42 S  = some zS) : QMet G yX6_markTaken cX6_markTaken 2 none 3 66 [.ref (gad G 42)] S none zS := by
  refine q_entry (by decide +kernel) rfl hi (Nat.le_of_ble_eq_true rfl) ?_
  intro X C
  refine q_lv (lv' := [(0, .ref (gad G 42))]) [0] rfl ?_
  unfold m_Sc_markTaken at hm
  refine q_iconst (pc := 0) (v := (0 : Int32)) C dX6_markTaken_0 (by decide) ?_
  refine q_istore_n (pc := 1) (lv' := [(1, .int (0 : Int32)), (0, .ref (gad G 42))]) C dX6_markTaken_1 rfl (by decide) rfl ?_
  refine q_lv (lv' := [(0, .ref (gad G 42)), (1, .int (0 : Int32))]) [1, 0] rfl ?_
  obtain ⟨S1, h1, hm⟩ := o1_some hm
  refine w_Sc_markTaken_42_L2 hi C 200 _ _ _ h1 ?_
  refine q_iconst (pc := 22) (v := (0 : Int32)) C dX6_markTaken_22 (by decide) ?_
  refine q_istore_n (pc := 23) (lv' := [(1, .int (0 : Int32)), (0, .ref (gad G 42))]) C dX6_markTaken_23 rfl (by decide) rfl ?_
  refine q_lv (lv' := [(0, .ref (gad G 42)), (1, .int (0 : Int32))]) [1, 0] rfl ?_
  obtain ⟨S2, h2, hm⟩ := o1_some hm
  refine w_Sc_markTaken_42_L24 hi C 200 _ _ _ h2 ?_
  cases hm
  exact q_vret (pc := 54) C dX6_markTaken_54
set_option maxRecDepth 100000 in
theorem w_Sc_firstPlaceFor_42_L18 {G : Gx} (hi : qinj (gad G)) {X : Cx} (C : QC G X cX6_firstPlaceFor 5 RX6 4 87 (some .int)) : ∀ (n : Nat) (S : St) (v2 : Int32) (v3 : Int32) (v4 : Int32) (zr : Int32) (zS : St), m_Sc_firstPlaceFor_L18 42 n S v2 v3 v4 = some (zr, zS) → QW G X 5 (QE G X (some (.int zr)) zS) 18 [(0, .ref (gad G 42)), (2, .int v2), (3, .int v3), (4, .int v4)] [] S := by
  intro n
  induction n with
  | zero =>
    intro S v2 v3 v4 zr zS hm
    rw [m_Sc_firstPlaceFor_L18] at hm
    cases hm
  | succ n ih =>
    intro S v2 v3 v4 zr zS hm
    rw [m_Sc_firstPlaceFor_L18] at hm
    refine q_iload (pc := 18) C dX6_firstPlaceFor_18 3 rfl ?_
    refine q_aload_n (pc := 20) C dX6_firstPlaceFor_20 rfl 0 rfl ?_
    refine q_get (pc := 21) (T := TX1) (v := .int (S 42 2)) C (by decide) (ce_42 _ _ _) (ci := 1) rfl inlX1 (j := 2) (by decide) rfl tw_320 (Or.inr tw_321) dX6_firstPlaceFor_21 ?_
    refine q_icmp_ge (pc := 24) (tgt := 71) C dX6_firstPlaceFor_24 (by decide) (fun c1 => ?_) (fun c1 => ?_)
    · replace hm := hm_t c1 hm
      refine q_iconst (pc := 71) (v := (-1 : Int32)) C dX6_firstPlaceFor_71 (by decide) ?_
      cases hm
      exact q_iret (pc := 72) C dX6_firstPlaceFor_72
    · replace hm := hm_f c1 hm
      refine q_iload (pc := 27) C dX6_firstPlaceFor_27 3 rfl ?_
      refine q_sipush (pc := 29) (v := (160 : Int32)) C dX6_firstPlaceFor_29 (by decide) ?_
      refine q_icmp_ge (pc := 32) (tgt := 71) C dX6_firstPlaceFor_32 (by decide) (fun c2 => ?_) (fun c2 => ?_)
      · replace hm := hm_t c2 hm
        refine q_iconst (pc := 71) (v := (-1 : Int32)) C dX6_firstPlaceFor_71 (by decide) ?_
        cases hm
        exact q_iret (pc := 72) C dX6_firstPlaceFor_72
      · replace hm := hm_f c2 hm
        refine q_aload_n (pc := 35) C dX6_firstPlaceFor_35 rfl 0 rfl ?_
        refine q_get (pc := 36) (T := TX1) (v := .ref (gad G 45)) C (by decide) (ce_42 _ _ _) (ci := 1) rfl inlX1 (j := 0) (by decide) rfl tw_80 (Or.inl rfl) dX6_firstPlaceFor_36 ?_
        refine q_iload (pc := 39) C dX6_firstPlaceFor_39 3 rfl ?_
        obtain ⟨b1, hm⟩ := oi_some hm
        refine q_zald (pc := 41) C (by decide) (ce_45 _ _ _) (ty_45 _) b1 dX6_firstPlaceFor_41 ?_
        refine q_if_eq (pc := 42) (tgt := 49) C dX6_firstPlaceFor_42 (by decide) (fun c3 => ?_) (fun c3 => ?_)
        · replace hm := hm_t c3 hm
          refine q_iload_n (pc := 49) C dX6_firstPlaceFor_49 rfl 2 rfl ?_
          refine q_iconst (pc := 50) (v := (1 : Int32)) C dX6_firstPlaceFor_50 (by decide) ?_
          refine q_iadd (pc := 51) C dX6_firstPlaceFor_51 ?_
          refine q_istore_n (pc := 52) (lv' := [(3, .int (v3 + (1 : Int32))), (0, .ref (gad G 42)), (2, .int v2), (4, .int v4)]) C dX6_firstPlaceFor_52 rfl (by decide) rfl ?_
          refine q_iload_n (pc := 53) C dX6_firstPlaceFor_53 rfl 0 rfl ?_
          refine q_iload_n (pc := 54) C dX6_firstPlaceFor_54 rfl 2 rfl ?_
          refine q_icmp_ne (pc := 55) (tgt := 65) C dX6_firstPlaceFor_55 (by decide) (fun c4 => ?_) (fun c4 => ?_)
          · replace hm := hm_f c4 hm
            refine q_iinc (pc := 65) (k := 3) (v := (v4 + (1 : Int32))) (lv' := [(4, .int (v4 + (1 : Int32))), (3, .int (v3 + (1 : Int32))), (0, .ref (gad G 42)), (2, .int v2)]) C dX6_firstPlaceFor_65 rfl rfl (by decide) rfl ?_
            refine q_goto (pc := 68) (tgt := 18) C dX6_firstPlaceFor_68 (by decide) ?_
            refine q_lv (lv' := [(0, .ref (gad G 42)), (2, .int v2), (3, .int (v3 + (1 : Int32))), (4, .int (v4 + (1 : Int32)))]) [2, 3, 1, 0] rfl ?_
            exact ih _ _ _ _ _ _ hm
          · replace hm := hm_t c4 hm
            refine q_iload (pc := 58) C dX6_firstPlaceFor_58 3 rfl ?_
            refine q_iload_n (pc := 60) C dX6_firstPlaceFor_60 rfl 2 rfl ?_
            refine q_isub (pc := 61) C dX6_firstPlaceFor_61 ?_
            refine q_iconst (pc := 62) (v := (1 : Int32)) C dX6_firstPlaceFor_62 (by decide) ?_
            refine q_iadd (pc := 63) C dX6_firstPlaceFor_63 ?_
            cases hm
            exact q_iret (pc := 64) C dX6_firstPlaceFor_64
        · replace hm := hm_f c3 hm
          refine q_iconst (pc := 45) (v := (0 : Int32)) C dX6_firstPlaceFor_45 (by decide) ?_
          refine q_goto (pc := 46) (tgt := 52) C dX6_firstPlaceFor_46 (by decide) ?_
          refine q_istore_n (pc := 52) (lv' := [(3, .int (0 : Int32)), (0, .ref (gad G 42)), (2, .int v2), (4, .int v4)]) C dX6_firstPlaceFor_52 rfl (by decide) rfl ?_
          refine q_iload_n (pc := 53) C dX6_firstPlaceFor_53 rfl 0 rfl ?_
          refine q_iload_n (pc := 54) C dX6_firstPlaceFor_54 rfl 2 rfl ?_
          refine q_icmp_ne (pc := 55) (tgt := 65) C dX6_firstPlaceFor_55 (by decide) (fun c5 => ?_) (fun c5 => ?_)
          · replace hm := hm_f c5 hm
            refine q_iinc (pc := 65) (k := 3) (v := (v4 + (1 : Int32))) (lv' := [(4, .int (v4 + (1 : Int32))), (3, .int (0 : Int32)), (0, .ref (gad G 42)), (2, .int v2)]) C dX6_firstPlaceFor_65 rfl rfl (by decide) rfl ?_
            refine q_goto (pc := 68) (tgt := 18) C dX6_firstPlaceFor_68 (by decide) ?_
            refine q_lv (lv' := [(0, .ref (gad G 42)), (2, .int v2), (3, .int (0 : Int32)), (4, .int (v4 + (1 : Int32)))]) [2, 3, 1, 0] rfl ?_
            exact ih _ _ _ _ _ _ hm
          · replace hm := hm_t c5 hm
            refine q_iload (pc := 58) C dX6_firstPlaceFor_58 3 rfl ?_
            refine q_iload_n (pc := 60) C dX6_firstPlaceFor_60 rfl 2 rfl ?_
            refine q_isub (pc := 61) C dX6_firstPlaceFor_61 ?_
            refine q_iconst (pc := 62) (v := (1 : Int32)) C dX6_firstPlaceFor_62 (by decide) ?_
            refine q_iadd (pc := 63) C dX6_firstPlaceFor_63 ?_
            cases hm
            exact q_iret (pc := 64) C dX6_firstPlaceFor_64
set_option maxRecDepth 100000 in
theorem c_Sc_firstPlaceFor_42 {G : Gx} (hi : qinj (gad G)) {S : St} {a1 : Int32} {zr : Int32} {zS : St} (hm : m_Sc_firstPlaceFor 42 S a1 = some (zr, zS)) : QMet G yX6_firstPlaceFor cX6_firstPlaceFor 5 (some .int) 4 87 [.ref (gad G 42), .int a1] S (some (.int zr)) zS := by
  refine q_entry (by decide +kernel) rfl hi (Nat.le_of_ble_eq_true rfl) ?_
  intro X C
  refine q_lv (lv' := [(0, .ref (gad G 42)), (1, .int a1)]) [0, 1] rfl ?_
  unfold m_Sc_firstPlaceFor at hm
  refine q_aload_n (pc := 0) C dX6_firstPlaceFor_0 rfl 0 rfl ?_
  refine q_get (pc := 1) (T := TX1) (v := .ref (gad G 1)) C (by decide) (ce_42 _ _ _) (ci := 1) rfl inlX1 (j := 1) (by decide) rfl tw_318 (Or.inr tw_319) dX6_firstPlaceFor_1 ?_
  refine q_iload_n (pc := 4) C dX6_firstPlaceFor_4 rfl 1 rfl ?_
  obtain ⟨r1, h1, hm⟩ := o1_some hm
  refine q_callV (pc := 5) (k := 1) (As := [.int a1]) (rest := []) (T := TX2) C (c_Gr_wordsOf hi h1) (by decide) (ce_1 _ _ _) (ci := 2) rfl tw_322 tw_229 tw_230 tw_13 tw_231 (nA := 1) (by decide +kernel) rfl (by decide) (Nat.le_of_ble_eq_true rfl) rfl dX6_firstPlaceFor_5 ?_
  refine q_istore_n (pc := 8) (lv' := [(2, .int r1), (0, .ref (gad G 42)), (1, .int a1)]) C dX6_firstPlaceFor_8 rfl (by decide) rfl ?_
  refine q_iconst (pc := 9) (v := (0 : Int32)) C dX6_firstPlaceFor_9 (by decide) ?_
  refine q_istore_n (pc := 10) (lv' := [(3, .int (0 : Int32)), (2, .int r1), (0, .ref (gad G 42)), (1, .int a1)]) C dX6_firstPlaceFor_10 rfl (by decide) rfl ?_
  refine q_aload_n (pc := 11) C dX6_firstPlaceFor_11 rfl 2 rfl ?_
  obtain ⟨S1, h2, hm⟩ := o1_some hm
  refine q_callU (pc := 12) (k := 42) (As := []) (rest := []) (T := TX1) (owner := "Tessera$Scattered") (x := ⟨"Tessera$Scattered", "markTaken", "()V"⟩) C (c_Sc_markTaken_42 hi h2) (by decide) (ce_42 _ _ _) (ci := 1) rfl (Or.inl rfl) tw_323 tw_324 tw_326 tw_325 tw_78 tw_327 (nA := 0) (by decide +kernel) rfl (by decide) (Nat.le_of_ble_eq_true rfl) rfl dX6_firstPlaceFor_12 ?_
  refine q_iconst (pc := 15) (v := (0 : Int32)) C dX6_firstPlaceFor_15 (by decide) ?_
  refine q_istore (pc := 16) (lv' := [(4, .int (0 : Int32)), (3, .int (0 : Int32)), (2, .int r1), (0, .ref (gad G 42)), (1, .int a1)]) C dX6_firstPlaceFor_16 (by decide) rfl ?_
  refine q_lv (lv' := [(0, .ref (gad G 42)), (2, .int r1), (3, .int (0 : Int32)), (4, .int (0 : Int32))]) [3, 2, 1, 0] rfl ?_
  exact w_Sc_firstPlaceFor_42_L18 hi C 200 _ _ _ _ _ _ hm
set_option maxRecDepth 100000 in
theorem c_St_put_42 {G : Gx} (hi : qinj (gad G)) {S : St} {a1 : Int32} {a2 : Int32} {zS : St} (hm : m_St_put 42 1 S a1 a2 = some zS) : QMet G yX7_put cX7_put 3 none 1 21 [.ref (gad G 42), .int a1, .int a2] S none zS := by
  refine q_entry (by decide +kernel) rfl hi (Nat.le_of_ble_eq_true rfl) ?_
  intro X C
  refine q_lv (lv' := [(0, .ref (gad G 42)), (1, .int a1), (2, .int a2)]) [0, 1, 2] rfl ?_
  unfold m_St_put at hm
  refine q_aload_n (pc := 0) C dX7_put_0 rfl 0 rfl ?_
  refine q_get (pc := 1) (T := TX1) (v := .ref (gad G 1)) C (by decide) (ce_42 _ _ _) (ci := 1) rfl inlX1 (j := 1) (by decide) rfl tw_67 (Or.inl rfl) dX7_put_1 ?_
  refine q_iload_n (pc := 4) C dX7_put_4 rfl 1 rfl ?_
  obtain ⟨r1, h1, hm⟩ := o1_some hm
  refine q_callV (pc := 5) (k := 1) (As := [.int a1]) (rest := []) (T := TX2) C (c_Gr_isThing hi h1) (by decide) (ce_1 _ _ _) (ci := 2) rfl tw_299 tw_300 tw_301 tw_13 tw_302 (nA := 1) (by decide +kernel) rfl (by decide) (Nat.le_of_ble_eq_true rfl) rfl dX7_put_5 ?_
  refine q_if_eq (pc := 8) (tgt := 25) C dX7_put_8 (by decide) (fun c1 => ?_) (fun c1 => ?_)
  · replace hm := hm_t c1 hm
    cases hm
    exact q_vret (pc := 25) C dX7_put_25
  · replace hm := hm_f c1 hm
    refine q_aload_n (pc := 11) C dX7_put_11 rfl 0 rfl ?_
    refine q_get (pc := 12) (T := TX1) (v := .ref (gad G 43)) C (by decide) (ce_42 _ _ _) (ci := 1) rfl inlX1 (j := 8) (by decide) rfl tw_65 (Or.inl rfl) dX7_put_12 ?_
    refine q_iload_n (pc := 15) C dX7_put_15 rfl 1 rfl ?_
    refine q_iconst (pc := 16) (v := (1 : Int32)) C dX7_put_16 (by decide) ?_
    obtain ⟨b1, hm⟩ := oi_some hm
    refine q_zast1 (pc := 17) C (by decide) (fun _ => ce_43 _ _ _) (ty_43 _) b1 dX7_put_17 ?_
    refine q_aload_n (pc := 18) C dX7_put_18 rfl 0 rfl ?_
    refine q_get (pc := 19) (T := TX1) (v := .ref (gad G 44)) C (by decide) (ce_42 _ _ _) (ci := 1) rfl inlX1 (j := 9) (by decide) rfl tw_66 (Or.inl rfl) dX7_put_19 ?_
    refine q_iload_n (pc := 22) C dX7_put_22 rfl 1 rfl ?_
    refine q_iload_n (pc := 23) C dX7_put_23 rfl 2 rfl ?_
    obtain ⟨b2, hm⟩ := oi_some hm
    refine q_iast (pc := 24) C (by decide) (fun _ => ce_44 _ _ _) (ty_44 _) b2 dX7_put_24 ?_
    cases hm
    exact q_vret (pc := 25) C dX7_put_25
set_option maxRecDepth 100000 in
theorem c_St_breakDown_Cou_42 {G : Gx} (hi : qinj (gad G)) {S : St}  {zS : St} (hm : m_St_breakDown_Cou S  = some zS) : QMet G yX7_breakDown cX7_breakDown 1 none 1 21 [.ref (gad G 42)] S none zS := by
  refine q_entry (by decide +kernel) rfl hi (Nat.le_of_ble_eq_true rfl) ?_
  intro X C
  refine q_lv (lv' := [(0, .ref (gad G 42))]) [0] rfl ?_
  unfold m_St_breakDown_Cou at hm
  refine q_aload_n (pc := 0) C dX7_breakDown_0 rfl 0 rfl ?_
  refine q_iconst (pc := 1) (v := (1 : Int32)) C dX7_breakDown_1 (by decide) ?_
  refine q_put (pc := 2) (T := TX1) (ty := .boolean) C tyX1 tyX1_ok nmX1 (by decide) (ce_42 _ _ _) (pe_42_6 _ _ _ _) (ci := 1) rfl inlX1 (j := 6) (by decide) (Nat.le_of_ble_eq_true rfl) tw_136 (Or.inl rfl) rfl (by decide +kernel) (by decide) (by decide) dX7_breakDown_2 ?_
  refine q_aload_n (pc := 5) C dX7_breakDown_5 rfl 0 rfl ?_
  obtain ⟨S1, h1, hm⟩ := o1_some hm
  refine q_callU (pc := 6) (k := 42) (As := []) (rest := []) (T := TX1) (owner := "Tessera$Store") (x := ⟨"Tessera$Store", "letAllGo", "()V"⟩) C (c_St_letAllGo_42 hi h1) (by decide) (ce_42 _ _ _) (ci := 1) rfl (Or.inl rfl) tw_138 tw_139 tw_141 tw_143 tw_62 tw_142 (nA := 0) (by decide +kernel) rfl (by decide) (Nat.le_of_ble_eq_true rfl) rfl dX7_breakDown_6 ?_
  refine q_aload_n (pc := 9) C dX7_breakDown_9 rfl 0 rfl ?_
  obtain ⟨S2, h2, hm⟩ := o1_some hm
  refine q_callU (pc := 10) (k := 42) (As := []) (rest := []) (T := TX1) (owner := "Tessera$Store") (x := ⟨"Tessera$Store", "forgetThings", "()V"⟩) C (c_Cou_forgetThings hi h2) (by decide) (ce_42 _ _ _) (ci := 1) rfl (Or.inr (Or.inl (by decide))) tw_146 tw_147 tw_154 tw_153 tw_22 tw_155 (nA := 0) (by decide +kernel) rfl (by decide) (Nat.le_of_ble_eq_true rfl) rfl dX7_breakDown_10 ?_
  cases hm
  exact q_vret (pc := 13) C dX7_breakDown_13
set_option maxRecDepth 100000 in
theorem w_Row_empty_52_L2 {G : Gx} (hi : qinj (gad G)) {X : Cx} (C : QC G X cX5_empty 2 RX5 0 0 none) {Q : State → Prop} : ∀ (n : Nat) (S : St) (v1 : Int32) (zS : St), m_Row_empty_L2 52 n S v1 = some zS → QW G X 2 Q 21 [(0, .ref (gad G 52))] [] zS → QW G X 2 Q 2 [(0, .ref (gad G 52)), (1, .int v1)] [] S := by
  intro n
  induction n with
  | zero =>
    intro S v1 zS hm kk
    rw [m_Row_empty_L2] at hm
    cases hm
  | succ n ih =>
    intro S v1 zS hm kk
    rw [m_Row_empty_L2] at hm
    refine q_iload_n (pc := 2) C dX5_empty_2 rfl 1 rfl ?_
    refine q_bipush (pc := 3) (v := (80 : Int32)) C dX5_empty_3 (by decide) ?_
    refine q_icmp_ge (pc := 5) (tgt := 21) C dX5_empty_5 (by decide) (fun c1 => ?_) (fun c1 => ?_)
    · replace hm := hm_t c1 hm
      cases hm
      refine q_lv (lv' := [(0, .ref (gad G 52))]) [0] rfl ?_
      exact kk
    · replace hm := hm_f c1 hm
      refine q_aload_n (pc := 8) C dX5_empty_8 rfl 0 rfl ?_
      refine q_get (pc := 9) (T := TX5) (v := .ref (gad G 54)) C (by decide) (ce_52 _ _ _) (ci := 5) rfl inlX5 (j := 1) (by decide) rfl tw_50 (Or.inl rfl) dX5_empty_9 ?_
      refine q_iload_n (pc := 12) C dX5_empty_12 rfl 1 rfl ?_
      refine q_iconst (pc := 13) (v := (0 : Int32)) C dX5_empty_13 (by decide) ?_
      obtain ⟨b1, hm⟩ := oi_some hm
      refine q_zast0 (pc := 14) C (by decide) (fun _ => ce_54 _ _ _) (ty_54 _) b1 dX5_empty_14 ?_
      refine q_iinc (pc := 15) (k := 1) (v := (v1 + (1 : Int32))) (lv' := [(1, .int (v1 + (1 : Int32))), (0, .ref (gad G 52))]) C dX5_empty_15 rfl rfl (by decide) rfl ?_
      refine q_goto (pc := 18) (tgt := 2) C dX5_empty_18 (by decide) ?_
      refine q_lv (lv' := [(0, .ref (gad G 52)), (1, .int (v1 + (1 : Int32)))]) [1, 0] rfl ?_
      exact ih _ _ _ hm kk
set_option maxRecDepth 100000 in
theorem c_Row_empty_52 {G : Gx} (hi : qinj (gad G)) {S : St}  {zS : St} (hm : m_Row_empty 52 S  = some zS) : QMet G yX5_empty cX5_empty 2 none 0 0 [.ref (gad G 52)] S none zS := by
  refine q_entry (by decide +kernel) rfl hi (Nat.le_of_ble_eq_true rfl) ?_
  intro X C
  refine q_lv (lv' := [(0, .ref (gad G 52))]) [0] rfl ?_
  unfold m_Row_empty at hm
  refine q_iconst (pc := 0) (v := (0 : Int32)) C dX5_empty_0 (by decide) ?_
  refine q_istore_n (pc := 1) (lv' := [(1, .int (0 : Int32)), (0, .ref (gad G 52))]) C dX5_empty_1 rfl (by decide) rfl ?_
  refine q_lv (lv' := [(0, .ref (gad G 52)), (1, .int (0 : Int32))]) [1, 0] rfl ?_
  obtain ⟨S1, h1, hm⟩ := o1_some hm
  refine w_Row_empty_52_L2 hi C 200 _ _ _ h1 ?_
  refine q_aload_n (pc := 21) C dX5_empty_21 rfl 0 rfl ?_
  refine q_iconst (pc := 22) (v := (0 : Int32)) C dX5_empty_22 (by decide) ?_
  refine q_put (pc := 23) (T := TX5) (ty := .int) C tyX5 tyX5_ok nmX5 (by decide) (ce_52 _ _ _) (pe_52_2 _ _ _ _) (ci := 5) rfl inlX5 (j := 2) (by decide) (Nat.le_of_ble_eq_true rfl) tw_127 (Or.inl rfl) rfl (by decide +kernel) rfl rfl dX5_empty_23 ?_
  cases hm
  exact q_vret (pc := 26) C dX5_empty_26
set_option maxRecDepth 100000 in
theorem c_Cou_isSuspect {G : Gx} (hi : qinj (gad G)) {S : St} {a1 : Int32} {zr : Int32} (hm : m_Cou_isSuspect S a1 = some zr) : QMet G yX1_isSuspect cX1_isSuspect 2 (some .boolean) 1 21 [.ref (gad G 42), .int a1] S (some (.int zr)) S := by
  refine q_entry (by decide +kernel) rfl hi (Nat.le_of_ble_eq_true rfl) ?_
  intro X C
  refine q_lv (lv' := [(0, .ref (gad G 42)), (1, .int a1)]) [0, 1] rfl ?_
  unfold m_Cou_isSuspect at hm
  refine q_aload_n (pc := 0) C dX1_isSuspect_0 rfl 0 rfl ?_
  refine q_iload_n (pc := 1) C dX1_isSuspect_1 rfl 1 rfl ?_
  obtain ⟨r1, h1, hm⟩ := o1_some hm
  refine q_callU (pc := 2) (k := 42) (As := [.int a1]) (rest := []) (T := TX1) (owner := "Tessera$Store") (x := ⟨"Tessera$Counting", "has", "(I)Z"⟩) C (c_St_has_42 hi h1) (by decide) (ce_42 _ _ _) (ci := 1) rfl (Or.inl rfl) tw_365 tw_366 tw_256 tw_367 tw_62 tw_257 (nA := 1) (by decide +kernel) rfl (by decide) (Nat.le_of_ble_eq_true rfl) rfl dX1_isSuspect_2 ?_
  refine q_if_eq (pc := 5) (tgt := 21) C dX1_isSuspect_5 (by decide) (fun c1 => ?_) (fun c1 => ?_)
  · replace hm := hm_t c1 hm
    refine q_iconst (pc := 21) (v := (0 : Int32)) C dX1_isSuspect_21 (by decide) ?_
    cases hm
    exact q_zret (pc := 22) C (by decide) dX1_isSuspect_22
  · replace hm := hm_f c1 hm
    refine q_aload_n (pc := 8) C dX1_isSuspect_8 rfl 0 rfl ?_
    refine q_get (pc := 9) (T := TX1) (v := .ref (gad G 47)) C (by decide) (ce_42 _ _ _) (ci := 1) rfl inlX1 (j := 12) (by decide) rfl tw_86 (Or.inl rfl) dX1_isSuspect_9 ?_
    refine q_iload_n (pc := 12) C dX1_isSuspect_12 rfl 1 rfl ?_
    obtain ⟨b1, hm⟩ := oi_some hm
    refine q_zald (pc := 13) C (by decide) (ce_47 _ _ _) (ty_47 _) b1 dX1_isSuspect_13 ?_
    refine q_if_eq (pc := 14) (tgt := 21) C dX1_isSuspect_14 (by decide) (fun c2 => ?_) (fun c2 => ?_)
    · replace hm := hm_t c2 hm
      refine q_iconst (pc := 21) (v := (0 : Int32)) C dX1_isSuspect_21 (by decide) ?_
      cases hm
      exact q_zret (pc := 22) C (by decide) dX1_isSuspect_22
    · replace hm := hm_f c2 hm
      refine q_iconst (pc := 17) (v := (1 : Int32)) C dX1_isSuspect_17 (by decide) ?_
      refine q_goto (pc := 18) (tgt := 22) C dX1_isSuspect_18 (by decide) ?_
      cases hm
      exact q_zret (pc := 22) C (by decide) dX1_isSuspect_22
set_option maxRecDepth 100000 in
theorem c_Row_add_52 {G : Gx} (hi : qinj (gad G)) {S : St} {a1 : Int32} {zS : St} (hm : m_Row_add 52 S a1 = some zS) : QMet G yX5_add cX5_add 2 none 0 0 [.ref (gad G 52), .int a1] S none zS := by
  refine q_entry (by decide +kernel) rfl hi (Nat.le_of_ble_eq_true rfl) ?_
  intro X C
  refine q_lv (lv' := [(0, .ref (gad G 52)), (1, .int a1)]) [0, 1] rfl ?_
  unfold m_Row_add at hm
  refine q_iload_n (pc := 0) C dX5_add_0 rfl 1 rfl ?_
  refine q_if_lt (pc := 1) (tgt := 28) C dX5_add_1 (by decide) (fun c1 => ?_) (fun c1 => ?_)
  · replace hm := hm_t c1 hm
    cases hm
    exact q_vret (pc := 28) C dX5_add_28
  · replace hm := hm_f c1 hm
    refine q_iload_n (pc := 4) C dX5_add_4 rfl 1 rfl ?_
    refine q_bipush (pc := 5) (v := (80 : Int32)) C dX5_add_5 (by decide) ?_
    refine q_icmp_ge (pc := 7) (tgt := 28) C dX5_add_7 (by decide) (fun c2 => ?_) (fun c2 => ?_)
    · replace hm := hm_t c2 hm
      cases hm
      exact q_vret (pc := 28) C dX5_add_28
    · replace hm := hm_f c2 hm
      refine q_aload_n (pc := 10) C dX5_add_10 rfl 0 rfl ?_
      refine q_get (pc := 11) (T := TX5) (v := .ref (gad G 54)) C (by decide) (ce_52 _ _ _) (ci := 5) rfl inlX5 (j := 1) (by decide) rfl tw_50 (Or.inl rfl) dX5_add_11 ?_
      refine q_iload_n (pc := 14) C dX5_add_14 rfl 1 rfl ?_
      obtain ⟨b1, hm⟩ := oi_some hm
      refine q_zald (pc := 15) C (by decide) (ce_54 _ _ _) (ty_54 _) b1 dX5_add_15 ?_
      refine q_if_ne (pc := 16) (tgt := 28) C dX5_add_16 (by decide) (fun c3 => ?_) (fun c3 => ?_)
      · replace hm := hm_f c3 hm
        cases hm
        exact q_vret (pc := 28) C dX5_add_28
      · replace hm := hm_t c3 hm
        refine q_aload_n (pc := 19) C dX5_add_19 rfl 0 rfl ?_
        refine q_get (pc := 20) (T := TX5) (v := .int (S 52 2)) C (by decide) (ce_52 _ _ _) (ci := 5) rfl inlX5 (j := 2) (by decide) rfl tw_127 (Or.inl rfl) dX5_add_20 ?_
        refine q_bipush (pc := 23) (v := (80 : Int32)) C dX5_add_23 (by decide) ?_
        refine q_icmp_lt (pc := 25) (tgt := 29) C dX5_add_25 (by decide) (fun c4 => ?_) (fun c4 => ?_)
        · replace hm := hm_t c4 hm
          refine q_aload_n (pc := 29) C dX5_add_29 rfl 0 rfl ?_
          refine q_get (pc := 30) (T := TX5) (v := .ref (gad G 54)) C (by decide) (ce_52 _ _ _) (ci := 5) rfl inlX5 (j := 1) (by decide) rfl tw_50 (Or.inl rfl) dX5_add_30 ?_
          refine q_iload_n (pc := 33) C dX5_add_33 rfl 1 rfl ?_
          refine q_iconst (pc := 34) (v := (1 : Int32)) C dX5_add_34 (by decide) ?_
          obtain ⟨b2, hm⟩ := oi_some hm
          refine q_zast1 (pc := 35) C (by decide) (fun _ => ce_54 _ _ _) (ty_54 _) b2 dX5_add_35 ?_
          refine q_aload_n (pc := 36) C dX5_add_36 rfl 0 rfl ?_
          refine q_get (pc := 37) (T := TX5) (v := .ref (gad G 53)) C (by decide) (ce_52 _ _ _) (ci := 5) rfl inlX5 (j := 0) (by decide) rfl tw_49 (Or.inl rfl) dX5_add_37 ?_
          refine q_aload_n (pc := 40) C dX5_add_40 rfl 0 rfl ?_
          refine q_get (pc := 41) (T := TX5) (v := .int (S 52 2)) C (by decide) (ce_52 _ _ _) (ci := 5) rfl inlX5 (j := 2) (by decide) rfl tw_127 (Or.inl rfl) dX5_add_41 ?_
          refine q_iload_n (pc := 44) C dX5_add_44 rfl 1 rfl ?_
          obtain ⟨b3, hm⟩ := oi_some hm
          refine q_iast (pc := 45) C (by decide) (fun _ => ce_53 _ _ _) (ty_53 _) b3 dX5_add_45 ?_
          refine q_aload_n (pc := 46) C dX5_add_46 rfl 0 rfl ?_
          refine q_dup (pc := 47) C dX5_add_47 rfl ?_
          refine q_get (pc := 48) (T := TX5) (v := .int (S 52 2)) C (by decide) (ce_52 _ _ _) (ci := 5) rfl inlX5 (j := 2) (by decide) rfl tw_127 (Or.inl rfl) dX5_add_48 ?_
          refine q_iconst (pc := 51) (v := (1 : Int32)) C dX5_add_51 (by decide) ?_
          refine q_iadd (pc := 52) C dX5_add_52 ?_
          refine q_put (pc := 53) (T := TX5) (ty := .int) C tyX5 tyX5_ok nmX5 (by decide) (ce_52 _ _ _) (pe_52_2 _ _ _ _) (ci := 5) rfl inlX5 (j := 2) (by decide) (Nat.le_of_ble_eq_true rfl) tw_127 (Or.inl rfl) rfl (by decide +kernel) rfl rfl dX5_add_53 ?_
          cases hm
          exact q_vret (pc := 56) C dX5_add_56
        · replace hm := hm_f c4 hm
          cases hm
          exact q_vret (pc := 28) C dX5_add_28
set_option maxRecDepth 100000 in
theorem c_Row_get_52 {G : Gx} (hi : qinj (gad G)) {S : St} {a1 : Int32} {zr : Int32} (hm : m_Row_get 52 S a1 = some zr) : QMet G yX5_get cX5_get 2 (some .int) 0 0 [.ref (gad G 52), .int a1] S (some (.int zr)) S := by
  refine q_entry (by decide +kernel) rfl hi (Nat.le_of_ble_eq_true rfl) ?_
  intro X C
  refine q_lv (lv' := [(0, .ref (gad G 52)), (1, .int a1)]) [0, 1] rfl ?_
  unfold m_Row_get at hm
  refine q_iload_n (pc := 0) C dX5_get_0 rfl 1 rfl ?_
  refine q_if_lt (pc := 1) (tgt := 21) C dX5_get_1 (by decide) (fun c1 => ?_) (fun c1 => ?_)
  · replace hm := hm_t c1 hm
    refine q_iconst (pc := 21) (v := (-1 : Int32)) C dX5_get_21 (by decide) ?_
    cases hm
    exact q_iret (pc := 22) C dX5_get_22
  · replace hm := hm_f c1 hm
    refine q_iload_n (pc := 4) C dX5_get_4 rfl 1 rfl ?_
    refine q_aload_n (pc := 5) C dX5_get_5 rfl 0 rfl ?_
    refine q_get (pc := 6) (T := TX5) (v := .int (S 52 2)) C (by decide) (ce_52 _ _ _) (ci := 5) rfl inlX5 (j := 2) (by decide) rfl tw_127 (Or.inl rfl) dX5_get_6 ?_
    refine q_icmp_ge (pc := 9) (tgt := 21) C dX5_get_9 (by decide) (fun c2 => ?_) (fun c2 => ?_)
    · replace hm := hm_t c2 hm
      refine q_iconst (pc := 21) (v := (-1 : Int32)) C dX5_get_21 (by decide) ?_
      cases hm
      exact q_iret (pc := 22) C dX5_get_22
    · replace hm := hm_f c2 hm
      refine q_aload_n (pc := 12) C dX5_get_12 rfl 0 rfl ?_
      refine q_get (pc := 13) (T := TX5) (v := .ref (gad G 53)) C (by decide) (ce_52 _ _ _) (ci := 5) rfl inlX5 (j := 0) (by decide) rfl tw_49 (Or.inl rfl) dX5_get_13 ?_
      refine q_iload_n (pc := 16) C dX5_get_16 rfl 1 rfl ?_
      obtain ⟨b1, hm⟩ := oi_some hm
      refine q_iald (pc := 17) C (by decide) (ce_53 _ _ _) (ty_53 _) b1 dX5_get_17 ?_
      refine q_goto (pc := 18) (tgt := 22) C dX5_get_18 (by decide) ?_
      cases hm
      exact q_iret (pc := 22) C dX5_get_22
set_option maxRecDepth 100000 in
theorem w_Gr_addNamedBy_52_L2 {G : Gx} (hi : qinj (gad G)) {X : Cx} (C : QC G X cX2_addNamedBy 4 RX2 1 22 none) {Q : State → Prop} : ∀ (n : Nat) (S : St) (v1 : Int32) (v3 : Int32) (zS : St), m_Gr_addNamedBy_L2 52 n S v1 v3 = some zS → QW G X 4 Q 27 [] [] zS → QW G X 4 Q 2 [(0, .ref (gad G 1)), (1, .int v1), (2, .ref (gad G 52)), (3, .int v3)] [] S := by
  intro n
  induction n with
  | zero =>
    intro S v1 v3 zS hm kk
    rw [m_Gr_addNamedBy_L2] at hm
    cases hm
  | succ n ih =>
    intro S v1 v3 zS hm kk
    rw [m_Gr_addNamedBy_L2] at hm
    refine q_iload_n (pc := 2) C dX2_addNamedBy_2 rfl 3 rfl ?_
    refine q_aload_n (pc := 3) C dX2_addNamedBy_3 rfl 0 rfl ?_
    refine q_iload_n (pc := 4) C dX2_addNamedBy_4 rfl 1 rfl ?_
    obtain ⟨r1, h1, hm⟩ := o1_some hm
    refine q_callV (pc := 5) (k := 1) (As := [.int v1]) (rest := [.int v3]) (T := TX2) C (c_Gr_fieldsOf hi h1) (by decide) (ce_1 _ _ _) (ci := 2) rfl tw_278 tw_279 tw_280 tw_13 tw_281 (nA := 1) (by decide +kernel) rfl (by decide) (Nat.le_of_ble_eq_true rfl) rfl dX2_addNamedBy_5 ?_
    refine q_icmp_ge (pc := 8) (tgt := 27) C dX2_addNamedBy_8 (by decide) (fun c1 => ?_) (fun c1 => ?_)
    · replace hm := hm_t c1 hm
      cases hm
      refine q_lv (lv' := []) [] rfl ?_
      exact kk
    · replace hm := hm_f c1 hm
      refine q_aload_n (pc := 11) C dX2_addNamedBy_11 rfl 2 rfl ?_
      refine q_aload_n (pc := 12) C dX2_addNamedBy_12 rfl 0 rfl ?_
      refine q_iload_n (pc := 13) C dX2_addNamedBy_13 rfl 1 rfl ?_
      refine q_iload_n (pc := 14) C dX2_addNamedBy_14 rfl 3 rfl ?_
      obtain ⟨r2, h2, hm⟩ := o1_some hm
      refine q_callV (pc := 15) (k := 1) (As := [.int v1, .int v3]) (rest := [.ref (gad G 52)]) (T := TX2) C (c_Gr_nameOf hi h2) (by decide) (ce_1 _ _ _) (ci := 2) rfl tw_282 tw_283 tw_284 tw_13 tw_285 (nA := 2) (by decide +kernel) rfl (by decide) (Nat.le_of_ble_eq_true rfl) rfl dX2_addNamedBy_15 ?_
      obtain ⟨S1, h3, hm⟩ := o1_some hm
      refine q_callV (pc := 18) (k := 52) (As := [.int r2]) (rest := []) (T := TX5) C (c_Row_add_52 hi h3) (by decide) (ce_52 _ _ _) (ci := 5) rfl tw_266 tw_267 tw_268 tw_43 tw_269 (nA := 1) (by decide +kernel) rfl (by decide) (Nat.le_of_ble_eq_true rfl) rfl dX2_addNamedBy_18 ?_
      refine q_iinc (pc := 21) (k := 3) (v := (v3 + (1 : Int32))) (lv' := [(3, .int (v3 + (1 : Int32))), (0, .ref (gad G 1)), (1, .int v1), (2, .ref (gad G 52))]) C dX2_addNamedBy_21 rfl rfl (by decide) rfl ?_
      refine q_goto (pc := 24) (tgt := 2) C dX2_addNamedBy_24 (by decide) ?_
      refine q_lv (lv' := [(0, .ref (gad G 1)), (1, .int v1), (2, .ref (gad G 52)), (3, .int (v3 + (1 : Int32)))]) [1, 2, 3, 0] rfl ?_
      exact ih _ _ _ _ hm kk
set_option maxRecDepth 100000 in
theorem c_Gr_addNamedBy_52 {G : Gx} (hi : qinj (gad G)) {S : St} {a1 : Int32} {zS : St} (hm : m_Gr_addNamedBy 52 S a1 = some zS) : QMet G yX2_addNamedBy cX2_addNamedBy 4 none 1 22 [.ref (gad G 1), .int a1, .ref (gad G 52)] S none zS := by
  refine q_entry (by decide +kernel) rfl hi (Nat.le_of_ble_eq_true rfl) ?_
  intro X C
  refine q_lv (lv' := [(0, .ref (gad G 1)), (1, .int a1), (2, .ref (gad G 52))]) [0, 1, 2] rfl ?_
  unfold m_Gr_addNamedBy at hm
  refine q_iconst (pc := 0) (v := (0 : Int32)) C dX2_addNamedBy_0 (by decide) ?_
  refine q_istore_n (pc := 1) (lv' := [(3, .int (0 : Int32)), (0, .ref (gad G 1)), (1, .int a1), (2, .ref (gad G 52))]) C dX2_addNamedBy_1 rfl (by decide) rfl ?_
  refine q_lv (lv' := [(0, .ref (gad G 1)), (1, .int a1), (2, .ref (gad G 52)), (3, .int (0 : Int32))]) [1, 2, 3, 0] rfl ?_
  obtain ⟨S1, h1, hm⟩ := o1_some hm
  refine w_Gr_addNamedBy_52_L2 hi C 200 _ _ _ _ h1 ?_
  cases hm
  exact q_vret (pc := 27) C dX2_addNamedBy_27
set_option maxRecDepth 100000 in
theorem w_Arr_fill_80_48_L5 {G : Gx} (hi : qinj (gad G)) {X : Cx} (C : QC G X cJ7_fill_53178 4 RJ7 0 0 none) {Q : State → Prop} : ∀ (n : Nat) (S : St) (v1 : Int32) (v2 : Int32) (v3 : Int32) (zS : St), m_Arr_fill_80_L5 48 n S v1 v2 v3 = some zS → QW G X 4 Q 20 [] [] zS → QW G X 4 Q 5 [(0, .ref (gad G 48)), (1, .int v1), (2, .int v2), (3, .int v3)] [] S := by
  intro n
  induction n with
  | zero =>
    intro S v1 v2 v3 zS hm kk
    rw [m_Arr_fill_80_L5] at hm
    cases hm
  | succ n ih =>
    intro S v1 v2 v3 zS hm kk
    rw [m_Arr_fill_80_L5] at hm
    refine q_iload_n (pc := 5) C dJ7_fill_53178_5 rfl 2 rfl ?_
    refine q_iload_n (pc := 6) C dJ7_fill_53178_6 rfl 3 rfl ?_
    refine q_icmp_ge (pc := 7) (tgt := 20) C dJ7_fill_53178_7 (by decide) (fun c1 => ?_) (fun c1 => ?_)
    · replace hm := hm_t c1 hm
      cases hm
      refine q_lv (lv' := []) [] rfl ?_
      exact kk
    · replace hm := hm_f c1 hm
      refine q_aload_n (pc := 10) C dJ7_fill_53178_10 rfl 0 rfl ?_
      refine q_iload_n (pc := 11) C dJ7_fill_53178_11 rfl 2 rfl ?_
      refine q_iload_n (pc := 12) C dJ7_fill_53178_12 rfl 1 rfl ?_
      obtain ⟨b1, hm⟩ := oi_some hm
      refine q_iast (pc := 13) C (by decide) (fun _ => ce_48 _ _ _) (ty_48 _) b1 dJ7_fill_53178_13 ?_
      refine q_iinc (pc := 14) (k := 2) (v := (v2 + (1 : Int32))) (lv' := [(2, .int (v2 + (1 : Int32))), (0, .ref (gad G 48)), (1, .int v1), (3, .int v3)]) C dJ7_fill_53178_14 rfl rfl (by decide) rfl ?_
      refine q_goto (pc := 17) (tgt := 5) C dJ7_fill_53178_17 (by decide) ?_
      refine q_lv (lv' := [(0, .ref (gad G 48)), (1, .int v1), (2, .int (v2 + (1 : Int32))), (3, .int v3)]) [1, 2, 0, 3] rfl ?_
      exact ih _ _ _ _ _ hm kk
set_option maxRecDepth 100000 in
theorem c_Arr_fill_80_48 {G : Gx} (hi : qinj (gad G)) {S : St} {a1 : Int32} {zS : St} (hm : m_Arr_fill_80 48 S a1 = some zS) : QMet G yJ7_fill_53178 cJ7_fill_53178 4 none 0 0 [.ref (gad G 48), .int a1] S none zS := by
  refine q_entry (by decide +kernel) rfl hi (Nat.le_of_ble_eq_true rfl) ?_
  intro X C
  refine q_lv (lv' := [(0, .ref (gad G 48)), (1, .int a1)]) [0, 1] rfl ?_
  unfold m_Arr_fill_80 at hm
  refine q_iconst (pc := 0) (v := (0 : Int32)) C dJ7_fill_53178_0 (by decide) ?_
  refine q_istore_n (pc := 1) (lv' := [(2, .int (0 : Int32)), (0, .ref (gad G 48)), (1, .int a1)]) C dJ7_fill_53178_1 rfl (by decide) rfl ?_
  refine q_aload_n (pc := 2) C dJ7_fill_53178_2 rfl 1 rfl ?_
  refine q_alen (pc := 3) (v := (80 : Int32)) C (by decide) (ce_48 _ _ _) (ty_48 _) (by decide) dJ7_fill_53178_3 ?_
  refine q_istore_n (pc := 4) (lv' := [(3, .int (80 : Int32)), (2, .int (0 : Int32)), (0, .ref (gad G 48)), (1, .int a1)]) C dJ7_fill_53178_4 rfl (by decide) rfl ?_
  refine q_lv (lv' := [(0, .ref (gad G 48)), (1, .int a1), (2, .int (0 : Int32)), (3, .int (80 : Int32))]) [2, 3, 1, 0] rfl ?_
  obtain ⟨S1, h1, hm⟩ := o1_some hm
  refine w_Arr_fill_80_48_L5 hi C 200 _ _ _ _ _ h1 ?_
  cases hm
  exact q_vret (pc := 20) C dJ7_fill_53178_20
set_option maxRecDepth 100000 in
theorem w_Cou_countNamedInside_L32 {G : Gx} (hi : qinj (gad G)) {X : Cx} (C : QC G X cX1_countNamedInside 5 RX1 1 23 none) {Q : State → Prop} : ∀ (n : Nat) (S : St) (v1 : Int32) (v2 : Int32) (v3 : Int32) (zS : St), m_Cou_countNamedInside_L32 n S v2 v3 = some zS → QW G X 5 Q 84 [(0, .ref (gad G 42)), (1, .int v1)] [] zS → QW G X 5 Q 32 [(0, .ref (gad G 42)), (1, .int v1), (2, .int v2), (3, .int v3)] [] S := by
  intro n
  induction n with
  | zero =>
    intro S v1 v2 v3 zS hm kk
    rw [m_Cou_countNamedInside_L32] at hm
    cases hm
  | succ n ih =>
    intro S v1 v2 v3 zS hm kk
    rw [m_Cou_countNamedInside_L32] at hm
    refine q_iload_n (pc := 32) C dX1_countNamedInside_32 rfl 3 rfl ?_
    refine q_aload_n (pc := 33) C dX1_countNamedInside_33 rfl 0 rfl ?_
    refine q_get (pc := 34) (T := TX1) (v := .ref (gad G 1)) C (by decide) (ce_42 _ _ _) (ci := 1) rfl inlX1 (j := 1) (by decide) rfl tw_311 (Or.inr tw_312) dX1_countNamedInside_34 ?_
    refine q_iload_n (pc := 37) C dX1_countNamedInside_37 rfl 2 rfl ?_
    obtain ⟨r1, h1, hm⟩ := o1_some hm
    refine q_callV (pc := 38) (k := 1) (As := [.int v2]) (rest := [.int v3]) (T := TX2) C (c_Gr_fieldsOf hi h1) (by decide) (ce_1 _ _ _) (ci := 2) rfl tw_376 tw_279 tw_280 tw_13 tw_281 (nA := 1) (by decide +kernel) rfl (by decide) (Nat.le_of_ble_eq_true rfl) rfl dX1_countNamedInside_38 ?_
    refine q_icmp_ge (pc := 41) (tgt := 84) C dX1_countNamedInside_41 (by decide) (fun c1 => ?_) (fun c1 => ?_)
    · replace hm := hm_t c1 hm
      cases hm
      refine q_lv (lv' := [(0, .ref (gad G 42)), (1, .int v1)]) [0, 1] rfl ?_
      exact kk
    · replace hm := hm_f c1 hm
      refine q_aload_n (pc := 44) C dX1_countNamedInside_44 rfl 0 rfl ?_
      refine q_get (pc := 45) (T := TX1) (v := .ref (gad G 1)) C (by decide) (ce_42 _ _ _) (ci := 1) rfl inlX1 (j := 1) (by decide) rfl tw_311 (Or.inr tw_312) dX1_countNamedInside_45 ?_
      refine q_iload_n (pc := 48) C dX1_countNamedInside_48 rfl 2 rfl ?_
      refine q_iload_n (pc := 49) C dX1_countNamedInside_49 rfl 3 rfl ?_
      obtain ⟨r2, h2, hm⟩ := o1_some hm
      refine q_callV (pc := 50) (k := 1) (As := [.int v2, .int v3]) (rest := []) (T := TX2) C (c_Gr_nameOf hi h2) (by decide) (ce_1 _ _ _) (ci := 2) rfl tw_377 tw_283 tw_284 tw_13 tw_285 (nA := 2) (by decide +kernel) rfl (by decide) (Nat.le_of_ble_eq_true rfl) rfl dX1_countNamedInside_50 ?_
      refine q_istore (pc := 53) (lv' := [(4, .int r2), (0, .ref (gad G 42)), (1, .int v1), (2, .int v2), (3, .int v3)]) C dX1_countNamedInside_53 (by decide) rfl ?_
      refine q_aload_n (pc := 55) C dX1_countNamedInside_55 rfl 1 rfl ?_
      refine q_get (pc := 56) (T := TX1) (v := .ref (gad G 1)) C (by decide) (ce_42 _ _ _) (ci := 1) rfl inlX1 (j := 1) (by decide) rfl tw_311 (Or.inr tw_312) dX1_countNamedInside_56 ?_
      refine q_iload (pc := 59) C dX1_countNamedInside_59 0 rfl ?_
      obtain ⟨r3, h3, hm⟩ := o1_some hm
      refine q_callV (pc := 61) (k := 1) (As := [.int r2]) (rest := []) (T := TX2) C (c_Gr_isThing hi h3) (by decide) (ce_1 _ _ _) (ci := 2) rfl tw_378 tw_300 tw_301 tw_13 tw_302 (nA := 1) (by decide +kernel) rfl (by decide) (Nat.le_of_ble_eq_true rfl) rfl dX1_countNamedInside_61 ?_
      refine q_if_eq (pc := 64) (tgt := 78) C dX1_countNamedInside_64 (by decide) (fun c2 => ?_) (fun c2 => ?_)
      · replace hm := hm_t c2 hm
        refine q_iinc (pc := 78) (k := 4) (v := (v3 + (1 : Int32))) (lv' := [(3, .int (v3 + (1 : Int32))), (4, .int r2), (0, .ref (gad G 42)), (1, .int v1), (2, .int v2)]) C dX1_countNamedInside_78 rfl rfl (by decide) rfl ?_
        refine q_goto (pc := 81) (tgt := 32) C dX1_countNamedInside_81 (by decide) ?_
        refine q_lv (lv' := [(0, .ref (gad G 42)), (1, .int v1), (2, .int v2), (3, .int (v3 + (1 : Int32)))]) [2, 3, 4, 0] rfl ?_
        exact ih _ _ _ _ _ hm kk
      · replace hm := hm_f c2 hm
        refine q_aload_n (pc := 67) C dX1_countNamedInside_67 rfl 1 rfl ?_
        refine q_get (pc := 68) (T := TX1) (v := .ref (gad G 48)) C (by decide) (ce_42 _ _ _) (ci := 1) rfl inlX1 (j := 13) (by decide) rfl tw_87 (Or.inl rfl) dX1_countNamedInside_68 ?_
        refine q_iload (pc := 71) C dX1_countNamedInside_71 0 rfl ?_
        refine q_dup2 (pc := 73) C dX1_countNamedInside_73 rfl rfl ?_
        obtain ⟨b1, hm⟩ := oi_some hm
        refine q_iald (pc := 74) C (by decide) (ce_48 _ _ _) (ty_48 _) b1 dX1_countNamedInside_74 ?_
        refine q_iconst (pc := 75) (v := (1 : Int32)) C dX1_countNamedInside_75 (by decide) ?_
        refine q_iadd (pc := 76) C dX1_countNamedInside_76 ?_
        obtain ⟨b2, hm⟩ := oi_some hm
        refine q_iast (pc := 77) C (by decide) (fun _ => ce_48 _ _ _) (ty_48 _) b2 dX1_countNamedInside_77 ?_
        refine q_iinc (pc := 78) (k := 4) (v := (v3 + (1 : Int32))) (lv' := [(3, .int (v3 + (1 : Int32))), (4, .int r2), (0, .ref (gad G 42)), (1, .int v1), (2, .int v2)]) C dX1_countNamedInside_78 rfl rfl (by decide) rfl ?_
        refine q_goto (pc := 81) (tgt := 32) C dX1_countNamedInside_81 (by decide) ?_
        refine q_lv (lv' := [(0, .ref (gad G 42)), (1, .int v1), (2, .int v2), (3, .int (v3 + (1 : Int32)))]) [2, 3, 4, 0] rfl ?_
        exact ih _ _ _ _ _ hm kk
set_option maxRecDepth 100000 in
theorem w_Cou_countNamedInside_L10 {G : Gx} (hi : qinj (gad G)) {X : Cx} (C : QC G X cX1_countNamedInside 5 RX1 1 23 none) {Q : State → Prop} : ∀ (n : Nat) (S : St) (v1 : Int32) (zS : St), m_Cou_countNamedInside_L10 n S v1 = some zS → QW G X 5 Q 90 [] [] zS → QW G X 5 Q 10 [(0, .ref (gad G 42)), (1, .int v1)] [] S := by
  intro n
  induction n with
  | zero =>
    intro S v1 zS hm kk
    rw [m_Cou_countNamedInside_L10] at hm
    cases hm
  | succ n ih =>
    intro S v1 zS hm kk
    rw [m_Cou_countNamedInside_L10] at hm
    refine q_iload_n (pc := 10) C dX1_countNamedInside_10 rfl 1 rfl ?_
    refine q_aload_n (pc := 11) C dX1_countNamedInside_11 rfl 0 rfl ?_
    refine q_get (pc := 12) (T := TX1) (v := .ref (gad G 52)) C (by decide) (ce_42 _ _ _) (ci := 1) rfl inlX1 (j := 15) (by decide) rfl tw_90 (Or.inl rfl) dX1_countNamedInside_12 ?_
    refine q_get (pc := 15) (T := TX5) (v := .int (S 52 2)) C (by decide) (ce_52 _ _ _) (ci := 5) rfl inlX5 (j := 2) (by decide) rfl tw_352 (Or.inl rfl) dX1_countNamedInside_15 ?_
    refine q_icmp_ge (pc := 18) (tgt := 90) C dX1_countNamedInside_18 (by decide) (fun c1 => ?_) (fun c1 => ?_)
    · replace hm := hm_t c1 hm
      cases hm
      refine q_lv (lv' := []) [] rfl ?_
      exact kk
    · replace hm := hm_f c1 hm
      refine q_aload_n (pc := 21) C dX1_countNamedInside_21 rfl 0 rfl ?_
      refine q_get (pc := 22) (T := TX1) (v := .ref (gad G 52)) C (by decide) (ce_42 _ _ _) (ci := 1) rfl inlX1 (j := 15) (by decide) rfl tw_90 (Or.inl rfl) dX1_countNamedInside_22 ?_
      refine q_iload_n (pc := 25) C dX1_countNamedInside_25 rfl 1 rfl ?_
      obtain ⟨r1, h1, hm⟩ := o1_some hm
      refine q_callV (pc := 26) (k := 52) (As := [.int v1]) (rest := []) (T := TX5) C (c_Row_get_52 hi h1) (by decide) (ce_52 _ _ _) (ci := 5) rfl tw_369 tw_271 tw_272 tw_43 tw_273 (nA := 1) (by decide +kernel) rfl (by decide) (Nat.le_of_ble_eq_true rfl) rfl dX1_countNamedInside_26 ?_
      refine q_istore_n (pc := 29) (lv' := [(2, .int r1), (0, .ref (gad G 42)), (1, .int v1)]) C dX1_countNamedInside_29 rfl (by decide) rfl ?_
      refine q_iconst (pc := 30) (v := (0 : Int32)) C dX1_countNamedInside_30 (by decide) ?_
      refine q_istore_n (pc := 31) (lv' := [(3, .int (0 : Int32)), (2, .int r1), (0, .ref (gad G 42)), (1, .int v1)]) C dX1_countNamedInside_31 rfl (by decide) rfl ?_
      refine q_lv (lv' := [(0, .ref (gad G 42)), (1, .int v1), (2, .int r1), (3, .int (0 : Int32))]) [2, 3, 1, 0] rfl ?_
      obtain ⟨S1, h2, hm⟩ := o1_some hm
      refine w_Cou_countNamedInside_L32 hi C 200 _ _ _ _ _ h2 ?_
      refine q_iinc (pc := 84) (k := 1) (v := (v1 + (1 : Int32))) (lv' := [(1, .int (v1 + (1 : Int32))), (0, .ref (gad G 42))]) C dX1_countNamedInside_84 rfl rfl (by decide) rfl ?_
      refine q_goto (pc := 87) (tgt := 10) C dX1_countNamedInside_87 (by decide) ?_
      refine q_lv (lv' := [(0, .ref (gad G 42)), (1, .int (v1 + (1 : Int32)))]) [1, 0] rfl ?_
      exact ih _ _ _ hm kk
set_option maxRecDepth 100000 in
theorem c_Cou_countNamedInside {G : Gx} (hi : qinj (gad G)) {S : St}  {zS : St} (hm : m_Cou_countNamedInside S  = some zS) : QMet G yX1_countNamedInside cX1_countNamedInside 5 none 1 23 [.ref (gad G 42)] S none zS := by
  refine q_entry (by decide +kernel) rfl hi (Nat.le_of_ble_eq_true rfl) ?_
  intro X C
  refine q_lv (lv' := [(0, .ref (gad G 42))]) [0] rfl ?_
  unfold m_Cou_countNamedInside at hm
  refine q_aload_n (pc := 0) C dX1_countNamedInside_0 rfl 0 rfl ?_
  refine q_get (pc := 1) (T := TX1) (v := .ref (gad G 48)) C (by decide) (ce_42 _ _ _) (ci := 1) rfl inlX1 (j := 13) (by decide) rfl tw_87 (Or.inl rfl) dX1_countNamedInside_1 ?_
  refine q_iconst (pc := 4) (v := (0 : Int32)) C dX1_countNamedInside_4 (by decide) ?_
  obtain ⟨S1, h1, hm⟩ := o1_some hm
  refine q_callS (pc := 5) (As := [.ref (gad G 48), .int (0 : Int32)]) (rest := []) C (c_Arr_fill_80_48 hi h1) tw_375 tw_120 tw_121 tw_122 (nA := 2) (by decide +kernel) rfl (by decide) (Nat.le_of_ble_eq_true rfl) rfl dX1_countNamedInside_5 ?_
  refine q_iconst (pc := 8) (v := (0 : Int32)) C dX1_countNamedInside_8 (by decide) ?_
  refine q_istore_n (pc := 9) (lv' := [(1, .int (0 : Int32)), (0, .ref (gad G 42))]) C dX1_countNamedInside_9 rfl (by decide) rfl ?_
  refine q_lv (lv' := [(0, .ref (gad G 42)), (1, .int (0 : Int32))]) [1, 0] rfl ?_
  obtain ⟨S2, h2, hm⟩ := o1_some hm
  refine w_Cou_countNamedInside_L10 hi C 200 _ _ _ h2 ?_
  cases hm
  exact q_vret (pc := 90) C dX1_countNamedInside_90
set_option maxRecDepth 100000 in
theorem w_Row_empty_55_L2 {G : Gx} (hi : qinj (gad G)) {X : Cx} (C : QC G X cX5_empty 2 RX5 0 0 none) {Q : State → Prop} : ∀ (n : Nat) (S : St) (v1 : Int32) (zS : St), m_Row_empty_L2 55 n S v1 = some zS → QW G X 2 Q 21 [(0, .ref (gad G 55))] [] zS → QW G X 2 Q 2 [(0, .ref (gad G 55)), (1, .int v1)] [] S := by
  intro n
  induction n with
  | zero =>
    intro S v1 zS hm kk
    rw [m_Row_empty_L2] at hm
    cases hm
  | succ n ih =>
    intro S v1 zS hm kk
    rw [m_Row_empty_L2] at hm
    refine q_iload_n (pc := 2) C dX5_empty_2 rfl 1 rfl ?_
    refine q_bipush (pc := 3) (v := (80 : Int32)) C dX5_empty_3 (by decide) ?_
    refine q_icmp_ge (pc := 5) (tgt := 21) C dX5_empty_5 (by decide) (fun c1 => ?_) (fun c1 => ?_)
    · replace hm := hm_t c1 hm
      cases hm
      refine q_lv (lv' := [(0, .ref (gad G 55))]) [0] rfl ?_
      exact kk
    · replace hm := hm_f c1 hm
      refine q_aload_n (pc := 8) C dX5_empty_8 rfl 0 rfl ?_
      refine q_get (pc := 9) (T := TX5) (v := .ref (gad G 57)) C (by decide) (ce_55 _ _ _) (ci := 5) rfl inlX5 (j := 1) (by decide) rfl tw_50 (Or.inl rfl) dX5_empty_9 ?_
      refine q_iload_n (pc := 12) C dX5_empty_12 rfl 1 rfl ?_
      refine q_iconst (pc := 13) (v := (0 : Int32)) C dX5_empty_13 (by decide) ?_
      obtain ⟨b1, hm⟩ := oi_some hm
      refine q_zast0 (pc := 14) C (by decide) (fun _ => ce_57 _ _ _) (ty_57 _) b1 dX5_empty_14 ?_
      refine q_iinc (pc := 15) (k := 1) (v := (v1 + (1 : Int32))) (lv' := [(1, .int (v1 + (1 : Int32))), (0, .ref (gad G 55))]) C dX5_empty_15 rfl rfl (by decide) rfl ?_
      refine q_goto (pc := 18) (tgt := 2) C dX5_empty_18 (by decide) ?_
      refine q_lv (lv' := [(0, .ref (gad G 55)), (1, .int (v1 + (1 : Int32)))]) [1, 0] rfl ?_
      exact ih _ _ _ hm kk
set_option maxRecDepth 100000 in
theorem c_Row_empty_55 {G : Gx} (hi : qinj (gad G)) {S : St}  {zS : St} (hm : m_Row_empty 55 S  = some zS) : QMet G yX5_empty cX5_empty 2 none 0 0 [.ref (gad G 55)] S none zS := by
  refine q_entry (by decide +kernel) rfl hi (Nat.le_of_ble_eq_true rfl) ?_
  intro X C
  refine q_lv (lv' := [(0, .ref (gad G 55))]) [0] rfl ?_
  unfold m_Row_empty at hm
  refine q_iconst (pc := 0) (v := (0 : Int32)) C dX5_empty_0 (by decide) ?_
  refine q_istore_n (pc := 1) (lv' := [(1, .int (0 : Int32)), (0, .ref (gad G 55))]) C dX5_empty_1 rfl (by decide) rfl ?_
  refine q_lv (lv' := [(0, .ref (gad G 55)), (1, .int (0 : Int32))]) [1, 0] rfl ?_
  obtain ⟨S1, h1, hm⟩ := o1_some hm
  refine w_Row_empty_55_L2 hi C 200 _ _ _ h1 ?_
  refine q_aload_n (pc := 21) C dX5_empty_21 rfl 0 rfl ?_
  refine q_iconst (pc := 22) (v := (0 : Int32)) C dX5_empty_22 (by decide) ?_
  refine q_put (pc := 23) (T := TX5) (ty := .int) C tyX5 tyX5_ok nmX5 (by decide) (ce_55 _ _ _) (pe_55_2 _ _ _ _) (ci := 5) rfl inlX5 (j := 2) (by decide) (Nat.le_of_ble_eq_true rfl) tw_127 (Or.inl rfl) rfl (by decide +kernel) rfl rfl dX5_empty_23 ?_
  cases hm
  exact q_vret (pc := 26) C dX5_empty_26
set_option maxRecDepth 100000 in
theorem c_Row_add_55 {G : Gx} (hi : qinj (gad G)) {S : St} {a1 : Int32} {zS : St} (hm : m_Row_add 55 S a1 = some zS) : QMet G yX5_add cX5_add 2 none 0 0 [.ref (gad G 55), .int a1] S none zS := by
  refine q_entry (by decide +kernel) rfl hi (Nat.le_of_ble_eq_true rfl) ?_
  intro X C
  refine q_lv (lv' := [(0, .ref (gad G 55)), (1, .int a1)]) [0, 1] rfl ?_
  unfold m_Row_add at hm
  refine q_iload_n (pc := 0) C dX5_add_0 rfl 1 rfl ?_
  refine q_if_lt (pc := 1) (tgt := 28) C dX5_add_1 (by decide) (fun c1 => ?_) (fun c1 => ?_)
  · replace hm := hm_t c1 hm
    cases hm
    exact q_vret (pc := 28) C dX5_add_28
  · replace hm := hm_f c1 hm
    refine q_iload_n (pc := 4) C dX5_add_4 rfl 1 rfl ?_
    refine q_bipush (pc := 5) (v := (80 : Int32)) C dX5_add_5 (by decide) ?_
    refine q_icmp_ge (pc := 7) (tgt := 28) C dX5_add_7 (by decide) (fun c2 => ?_) (fun c2 => ?_)
    · replace hm := hm_t c2 hm
      cases hm
      exact q_vret (pc := 28) C dX5_add_28
    · replace hm := hm_f c2 hm
      refine q_aload_n (pc := 10) C dX5_add_10 rfl 0 rfl ?_
      refine q_get (pc := 11) (T := TX5) (v := .ref (gad G 57)) C (by decide) (ce_55 _ _ _) (ci := 5) rfl inlX5 (j := 1) (by decide) rfl tw_50 (Or.inl rfl) dX5_add_11 ?_
      refine q_iload_n (pc := 14) C dX5_add_14 rfl 1 rfl ?_
      obtain ⟨b1, hm⟩ := oi_some hm
      refine q_zald (pc := 15) C (by decide) (ce_57 _ _ _) (ty_57 _) b1 dX5_add_15 ?_
      refine q_if_ne (pc := 16) (tgt := 28) C dX5_add_16 (by decide) (fun c3 => ?_) (fun c3 => ?_)
      · replace hm := hm_f c3 hm
        cases hm
        exact q_vret (pc := 28) C dX5_add_28
      · replace hm := hm_t c3 hm
        refine q_aload_n (pc := 19) C dX5_add_19 rfl 0 rfl ?_
        refine q_get (pc := 20) (T := TX5) (v := .int (S 55 2)) C (by decide) (ce_55 _ _ _) (ci := 5) rfl inlX5 (j := 2) (by decide) rfl tw_127 (Or.inl rfl) dX5_add_20 ?_
        refine q_bipush (pc := 23) (v := (80 : Int32)) C dX5_add_23 (by decide) ?_
        refine q_icmp_lt (pc := 25) (tgt := 29) C dX5_add_25 (by decide) (fun c4 => ?_) (fun c4 => ?_)
        · replace hm := hm_t c4 hm
          refine q_aload_n (pc := 29) C dX5_add_29 rfl 0 rfl ?_
          refine q_get (pc := 30) (T := TX5) (v := .ref (gad G 57)) C (by decide) (ce_55 _ _ _) (ci := 5) rfl inlX5 (j := 1) (by decide) rfl tw_50 (Or.inl rfl) dX5_add_30 ?_
          refine q_iload_n (pc := 33) C dX5_add_33 rfl 1 rfl ?_
          refine q_iconst (pc := 34) (v := (1 : Int32)) C dX5_add_34 (by decide) ?_
          obtain ⟨b2, hm⟩ := oi_some hm
          refine q_zast1 (pc := 35) C (by decide) (fun _ => ce_57 _ _ _) (ty_57 _) b2 dX5_add_35 ?_
          refine q_aload_n (pc := 36) C dX5_add_36 rfl 0 rfl ?_
          refine q_get (pc := 37) (T := TX5) (v := .ref (gad G 56)) C (by decide) (ce_55 _ _ _) (ci := 5) rfl inlX5 (j := 0) (by decide) rfl tw_49 (Or.inl rfl) dX5_add_37 ?_
          refine q_aload_n (pc := 40) C dX5_add_40 rfl 0 rfl ?_
          refine q_get (pc := 41) (T := TX5) (v := .int (S 55 2)) C (by decide) (ce_55 _ _ _) (ci := 5) rfl inlX5 (j := 2) (by decide) rfl tw_127 (Or.inl rfl) dX5_add_41 ?_
          refine q_iload_n (pc := 44) C dX5_add_44 rfl 1 rfl ?_
          obtain ⟨b3, hm⟩ := oi_some hm
          refine q_iast (pc := 45) C (by decide) (fun _ => ce_56 _ _ _) (ty_56 _) b3 dX5_add_45 ?_
          refine q_aload_n (pc := 46) C dX5_add_46 rfl 0 rfl ?_
          refine q_dup (pc := 47) C dX5_add_47 rfl ?_
          refine q_get (pc := 48) (T := TX5) (v := .int (S 55 2)) C (by decide) (ce_55 _ _ _) (ci := 5) rfl inlX5 (j := 2) (by decide) rfl tw_127 (Or.inl rfl) dX5_add_48 ?_
          refine q_iconst (pc := 51) (v := (1 : Int32)) C dX5_add_51 (by decide) ?_
          refine q_iadd (pc := 52) C dX5_add_52 ?_
          refine q_put (pc := 53) (T := TX5) (ty := .int) C tyX5 tyX5_ok nmX5 (by decide) (ce_55 _ _ _) (pe_55_2 _ _ _ _) (ci := 5) rfl inlX5 (j := 2) (by decide) (Nat.le_of_ble_eq_true rfl) tw_127 (Or.inl rfl) rfl (by decide +kernel) rfl rfl dX5_add_53 ?_
          cases hm
          exact q_vret (pc := 56) C dX5_add_56
        · replace hm := hm_f c4 hm
          cases hm
          exact q_vret (pc := 28) C dX5_add_28
set_option maxRecDepth 100000 in
theorem c_Row_get_55 {G : Gx} (hi : qinj (gad G)) {S : St} {a1 : Int32} {zr : Int32} (hm : m_Row_get 55 S a1 = some zr) : QMet G yX5_get cX5_get 2 (some .int) 0 0 [.ref (gad G 55), .int a1] S (some (.int zr)) S := by
  refine q_entry (by decide +kernel) rfl hi (Nat.le_of_ble_eq_true rfl) ?_
  intro X C
  refine q_lv (lv' := [(0, .ref (gad G 55)), (1, .int a1)]) [0, 1] rfl ?_
  unfold m_Row_get at hm
  refine q_iload_n (pc := 0) C dX5_get_0 rfl 1 rfl ?_
  refine q_if_lt (pc := 1) (tgt := 21) C dX5_get_1 (by decide) (fun c1 => ?_) (fun c1 => ?_)
  · replace hm := hm_t c1 hm
    refine q_iconst (pc := 21) (v := (-1 : Int32)) C dX5_get_21 (by decide) ?_
    cases hm
    exact q_iret (pc := 22) C dX5_get_22
  · replace hm := hm_f c1 hm
    refine q_iload_n (pc := 4) C dX5_get_4 rfl 1 rfl ?_
    refine q_aload_n (pc := 5) C dX5_get_5 rfl 0 rfl ?_
    refine q_get (pc := 6) (T := TX5) (v := .int (S 55 2)) C (by decide) (ce_55 _ _ _) (ci := 5) rfl inlX5 (j := 2) (by decide) rfl tw_127 (Or.inl rfl) dX5_get_6 ?_
    refine q_icmp_ge (pc := 9) (tgt := 21) C dX5_get_9 (by decide) (fun c2 => ?_) (fun c2 => ?_)
    · replace hm := hm_t c2 hm
      refine q_iconst (pc := 21) (v := (-1 : Int32)) C dX5_get_21 (by decide) ?_
      cases hm
      exact q_iret (pc := 22) C dX5_get_22
    · replace hm := hm_f c2 hm
      refine q_aload_n (pc := 12) C dX5_get_12 rfl 0 rfl ?_
      refine q_get (pc := 13) (T := TX5) (v := .ref (gad G 56)) C (by decide) (ce_55 _ _ _) (ci := 5) rfl inlX5 (j := 0) (by decide) rfl tw_49 (Or.inl rfl) dX5_get_13 ?_
      refine q_iload_n (pc := 16) C dX5_get_16 rfl 1 rfl ?_
      obtain ⟨b1, hm⟩ := oi_some hm
      refine q_iald (pc := 17) C (by decide) (ce_56 _ _ _) (ty_56 _) b1 dX5_get_17 ?_
      refine q_goto (pc := 18) (tgt := 22) C dX5_get_18 (by decide) ?_
      cases hm
      exact q_iret (pc := 22) C dX5_get_22
set_option maxRecDepth 100000 in
theorem w_Gr_addNamedBy_55_L2 {G : Gx} (hi : qinj (gad G)) {X : Cx} (C : QC G X cX2_addNamedBy 4 RX2 1 22 none) {Q : State → Prop} : ∀ (n : Nat) (S : St) (v1 : Int32) (v3 : Int32) (zS : St), m_Gr_addNamedBy_L2 55 n S v1 v3 = some zS → QW G X 4 Q 27 [] [] zS → QW G X 4 Q 2 [(0, .ref (gad G 1)), (1, .int v1), (2, .ref (gad G 55)), (3, .int v3)] [] S := by
  intro n
  induction n with
  | zero =>
    intro S v1 v3 zS hm kk
    rw [m_Gr_addNamedBy_L2] at hm
    cases hm
  | succ n ih =>
    intro S v1 v3 zS hm kk
    rw [m_Gr_addNamedBy_L2] at hm
    refine q_iload_n (pc := 2) C dX2_addNamedBy_2 rfl 3 rfl ?_
    refine q_aload_n (pc := 3) C dX2_addNamedBy_3 rfl 0 rfl ?_
    refine q_iload_n (pc := 4) C dX2_addNamedBy_4 rfl 1 rfl ?_
    obtain ⟨r1, h1, hm⟩ := o1_some hm
    refine q_callV (pc := 5) (k := 1) (As := [.int v1]) (rest := [.int v3]) (T := TX2) C (c_Gr_fieldsOf hi h1) (by decide) (ce_1 _ _ _) (ci := 2) rfl tw_278 tw_279 tw_280 tw_13 tw_281 (nA := 1) (by decide +kernel) rfl (by decide) (Nat.le_of_ble_eq_true rfl) rfl dX2_addNamedBy_5 ?_
    refine q_icmp_ge (pc := 8) (tgt := 27) C dX2_addNamedBy_8 (by decide) (fun c1 => ?_) (fun c1 => ?_)
    · replace hm := hm_t c1 hm
      cases hm
      refine q_lv (lv' := []) [] rfl ?_
      exact kk
    · replace hm := hm_f c1 hm
      refine q_aload_n (pc := 11) C dX2_addNamedBy_11 rfl 2 rfl ?_
      refine q_aload_n (pc := 12) C dX2_addNamedBy_12 rfl 0 rfl ?_
      refine q_iload_n (pc := 13) C dX2_addNamedBy_13 rfl 1 rfl ?_
      refine q_iload_n (pc := 14) C dX2_addNamedBy_14 rfl 3 rfl ?_
      obtain ⟨r2, h2, hm⟩ := o1_some hm
      refine q_callV (pc := 15) (k := 1) (As := [.int v1, .int v3]) (rest := [.ref (gad G 55)]) (T := TX2) C (c_Gr_nameOf hi h2) (by decide) (ce_1 _ _ _) (ci := 2) rfl tw_282 tw_283 tw_284 tw_13 tw_285 (nA := 2) (by decide +kernel) rfl (by decide) (Nat.le_of_ble_eq_true rfl) rfl dX2_addNamedBy_15 ?_
      obtain ⟨S1, h3, hm⟩ := o1_some hm
      refine q_callV (pc := 18) (k := 55) (As := [.int r2]) (rest := []) (T := TX5) C (c_Row_add_55 hi h3) (by decide) (ce_55 _ _ _) (ci := 5) rfl tw_266 tw_267 tw_268 tw_43 tw_269 (nA := 1) (by decide +kernel) rfl (by decide) (Nat.le_of_ble_eq_true rfl) rfl dX2_addNamedBy_18 ?_
      refine q_iinc (pc := 21) (k := 3) (v := (v3 + (1 : Int32))) (lv' := [(3, .int (v3 + (1 : Int32))), (0, .ref (gad G 1)), (1, .int v1), (2, .ref (gad G 55))]) C dX2_addNamedBy_21 rfl rfl (by decide) rfl ?_
      refine q_goto (pc := 24) (tgt := 2) C dX2_addNamedBy_24 (by decide) ?_
      refine q_lv (lv' := [(0, .ref (gad G 1)), (1, .int v1), (2, .ref (gad G 55)), (3, .int (v3 + (1 : Int32)))]) [1, 2, 3, 0] rfl ?_
      exact ih _ _ _ _ hm kk
set_option maxRecDepth 100000 in
theorem c_Gr_addNamedBy_55 {G : Gx} (hi : qinj (gad G)) {S : St} {a1 : Int32} {zS : St} (hm : m_Gr_addNamedBy 55 S a1 = some zS) : QMet G yX2_addNamedBy cX2_addNamedBy 4 none 1 22 [.ref (gad G 1), .int a1, .ref (gad G 55)] S none zS := by
  refine q_entry (by decide +kernel) rfl hi (Nat.le_of_ble_eq_true rfl) ?_
  intro X C
  refine q_lv (lv' := [(0, .ref (gad G 1)), (1, .int a1), (2, .ref (gad G 55))]) [0, 1, 2] rfl ?_
  unfold m_Gr_addNamedBy at hm
  refine q_iconst (pc := 0) (v := (0 : Int32)) C dX2_addNamedBy_0 (by decide) ?_
  refine q_istore_n (pc := 1) (lv' := [(3, .int (0 : Int32)), (0, .ref (gad G 1)), (1, .int a1), (2, .ref (gad G 55))]) C dX2_addNamedBy_1 rfl (by decide) rfl ?_
  refine q_lv (lv' := [(0, .ref (gad G 1)), (1, .int a1), (2, .ref (gad G 55)), (3, .int (0 : Int32))]) [1, 2, 3, 0] rfl ?_
  obtain ⟨S1, h1, hm⟩ := o1_some hm
  refine w_Gr_addNamedBy_55_L2 hi C 200 _ _ _ _ h1 ?_
  cases hm
  exact q_vret (pc := 27) C dX2_addNamedBy_27
set_option maxRecDepth 100000 in
theorem w_Cou_findLeftOut_L9 {G : Gx} (hi : qinj (gad G)) {X : Cx} (C : QC G X cX1_findLeftOut 3 RX1 2 45 none) {Q : State → Prop} : ∀ (n : Nat) (S : St) (v1 : Int32) (zS : St), m_Cou_findLeftOut_L9 n S v1 = some zS → QW G X 3 Q 69 [(0, .ref (gad G 42))] [] zS → QW G X 3 Q 9 [(0, .ref (gad G 42)), (1, .int v1)] [] S := by
  intro n
  induction n with
  | zero =>
    intro S v1 zS hm kk
    rw [m_Cou_findLeftOut_L9] at hm
    cases hm
  | succ n ih =>
    intro S v1 zS hm kk
    rw [m_Cou_findLeftOut_L9] at hm
    refine q_iload_n (pc := 9) C dX1_findLeftOut_9 rfl 1 rfl ?_
    refine q_aload_n (pc := 10) C dX1_findLeftOut_10 rfl 0 rfl ?_
    refine q_get (pc := 11) (T := TX1) (v := .ref (gad G 52)) C (by decide) (ce_42 _ _ _) (ci := 1) rfl inlX1 (j := 15) (by decide) rfl tw_90 (Or.inl rfl) dX1_findLeftOut_11 ?_
    refine q_get (pc := 14) (T := TX5) (v := .int (S 52 2)) C (by decide) (ce_52 _ _ _) (ci := 5) rfl inlX5 (j := 2) (by decide) rfl tw_352 (Or.inl rfl) dX1_findLeftOut_14 ?_
    refine q_icmp_ge (pc := 17) (tgt := 69) C dX1_findLeftOut_17 (by decide) (fun c1 => ?_) (fun c1 => ?_)
    · replace hm := hm_t c1 hm
      cases hm
      refine q_lv (lv' := [(0, .ref (gad G 42))]) [0] rfl ?_
      exact kk
    · replace hm := hm_f c1 hm
      refine q_aload_n (pc := 20) C dX1_findLeftOut_20 rfl 0 rfl ?_
      refine q_get (pc := 21) (T := TX1) (v := .ref (gad G 52)) C (by decide) (ce_42 _ _ _) (ci := 1) rfl inlX1 (j := 15) (by decide) rfl tw_90 (Or.inl rfl) dX1_findLeftOut_21 ?_
      refine q_iload_n (pc := 24) C dX1_findLeftOut_24 rfl 1 rfl ?_
      obtain ⟨r1, h1, hm⟩ := o1_some hm
      refine q_callV (pc := 25) (k := 52) (As := [.int v1]) (rest := []) (T := TX5) C (c_Row_get_52 hi h1) (by decide) (ce_52 _ _ _) (ci := 5) rfl tw_369 tw_271 tw_272 tw_43 tw_273 (nA := 1) (by decide +kernel) rfl (by decide) (Nat.le_of_ble_eq_true rfl) rfl dX1_findLeftOut_25 ?_
      refine q_istore_n (pc := 28) (lv' := [(2, .int r1), (0, .ref (gad G 42)), (1, .int v1)]) C dX1_findLeftOut_28 rfl (by decide) rfl ?_
      refine q_aload_n (pc := 29) C dX1_findLeftOut_29 rfl 1 rfl ?_
      refine q_get (pc := 30) (T := TX1) (v := .ref (gad G 1)) C (by decide) (ce_42 _ _ _) (ci := 1) rfl inlX1 (j := 1) (by decide) rfl tw_311 (Or.inr tw_312) dX1_findLeftOut_30 ?_
      refine q_iload_n (pc := 33) C dX1_findLeftOut_33 rfl 0 rfl ?_
      obtain ⟨r2, h2, hm⟩ := o1_some hm
      refine q_callV (pc := 34) (k := 1) (As := [.int r1]) (rest := []) (T := TX2) C (c_Gr_isThing hi h2) (by decide) (ce_1 _ _ _) (ci := 2) rfl tw_378 tw_300 tw_301 tw_13 tw_302 (nA := 1) (by decide +kernel) rfl (by decide) (Nat.le_of_ble_eq_true rfl) rfl dX1_findLeftOut_34 ?_
      refine q_if_eq (pc := 37) (tgt := 63) C dX1_findLeftOut_37 (by decide) (fun c2 => ?_) (fun c2 => ?_)
      · replace hm := hm_t c2 hm
        refine q_iinc (pc := 63) (k := 2) (v := (v1 + (1 : Int32))) (lv' := [(1, .int (v1 + (1 : Int32))), (2, .int r1), (0, .ref (gad G 42))]) C dX1_findLeftOut_63 rfl rfl (by decide) rfl ?_
        refine q_goto (pc := 66) (tgt := 9) C dX1_findLeftOut_66 (by decide) ?_
        refine q_lv (lv' := [(0, .ref (gad G 42)), (1, .int (v1 + (1 : Int32)))]) [2, 0] rfl ?_
        exact ih _ _ _ hm kk
      · replace hm := hm_f c2 hm
        refine q_aload_n (pc := 40) C dX1_findLeftOut_40 rfl 1 rfl ?_
        refine q_get (pc := 41) (T := TX1) (v := .ref (gad G 46)) C (by decide) (ce_42 _ _ _) (ci := 1) rfl inlX1 (j := 11) (by decide) rfl tw_85 (Or.inl rfl) dX1_findLeftOut_41 ?_
        refine q_iload_n (pc := 44) C dX1_findLeftOut_44 rfl 0 rfl ?_
        obtain ⟨b1, hm⟩ := oi_some hm
        refine q_iald (pc := 45) C (by decide) (ce_46 _ _ _) (ty_46 _) b1 dX1_findLeftOut_45 ?_
        refine q_aload_n (pc := 46) C dX1_findLeftOut_46 rfl 1 rfl ?_
        refine q_get (pc := 47) (T := TX1) (v := .ref (gad G 48)) C (by decide) (ce_42 _ _ _) (ci := 1) rfl inlX1 (j := 13) (by decide) rfl tw_87 (Or.inl rfl) dX1_findLeftOut_47 ?_
        refine q_iload_n (pc := 50) C dX1_findLeftOut_50 rfl 0 rfl ?_
        obtain ⟨b2, hm⟩ := oi_some hm
        refine q_iald (pc := 51) C (by decide) (ce_48 _ _ _) (ty_48 _) b2 dX1_findLeftOut_51 ?_
        refine q_icmp_le (pc := 52) (tgt := 63) C dX1_findLeftOut_52 (by decide) (fun c3 => ?_) (fun c3 => ?_)
        · replace hm := hm_t c3 hm
          refine q_iinc (pc := 63) (k := 2) (v := (v1 + (1 : Int32))) (lv' := [(1, .int (v1 + (1 : Int32))), (2, .int r1), (0, .ref (gad G 42))]) C dX1_findLeftOut_63 rfl rfl (by decide) rfl ?_
          refine q_goto (pc := 66) (tgt := 9) C dX1_findLeftOut_66 (by decide) ?_
          refine q_lv (lv' := [(0, .ref (gad G 42)), (1, .int (v1 + (1 : Int32)))]) [2, 0] rfl ?_
          exact ih _ _ _ hm kk
        · replace hm := hm_f c3 hm
          refine q_aload_n (pc := 55) C dX1_findLeftOut_55 rfl 1 rfl ?_
          refine q_get (pc := 56) (T := TX1) (v := .ref (gad G 55)) C (by decide) (ce_42 _ _ _) (ci := 1) rfl inlX1 (j := 16) (by decide) rfl tw_91 (Or.inl rfl) dX1_findLeftOut_56 ?_
          refine q_iload_n (pc := 59) C dX1_findLeftOut_59 rfl 0 rfl ?_
          obtain ⟨S1, h3, hm⟩ := o1_some hm
          refine q_callV (pc := 60) (k := 55) (As := [.int r1]) (rest := []) (T := TX5) C (c_Row_add_55 hi h3) (by decide) (ce_55 _ _ _) (ci := 5) rfl tw_368 tw_267 tw_268 tw_43 tw_269 (nA := 1) (by decide +kernel) rfl (by decide) (Nat.le_of_ble_eq_true rfl) rfl dX1_findLeftOut_60 ?_
          refine q_iinc (pc := 63) (k := 2) (v := (v1 + (1 : Int32))) (lv' := [(1, .int (v1 + (1 : Int32))), (2, .int r1), (0, .ref (gad G 42))]) C dX1_findLeftOut_63 rfl rfl (by decide) rfl ?_
          refine q_goto (pc := 66) (tgt := 9) C dX1_findLeftOut_66 (by decide) ?_
          refine q_lv (lv' := [(0, .ref (gad G 42)), (1, .int (v1 + (1 : Int32)))]) [2, 0] rfl ?_
          exact ih _ _ _ hm kk
set_option maxRecDepth 100000 in
theorem w_Cou_findLeftOut_L71 {G : Gx} (hi : qinj (gad G)) {X : Cx} (C : QC G X cX1_findLeftOut 3 RX1 2 45 none) {Q : State → Prop} : ∀ (n : Nat) (S : St) (v1 : Int32) (zS : St), m_Cou_findLeftOut_L71 n S v1 = some zS → QW G X 3 Q 113 [] [] zS → QW G X 3 Q 71 [(0, .ref (gad G 42)), (1, .int v1)] [] S := by
  intro n
  induction n with
  | zero =>
    intro S v1 zS hm kk
    rw [m_Cou_findLeftOut_L71] at hm
    cases hm
  | succ n ih =>
    intro S v1 zS hm kk
    rw [m_Cou_findLeftOut_L71] at hm
    refine q_iload_n (pc := 71) C dX1_findLeftOut_71 rfl 1 rfl ?_
    refine q_aload_n (pc := 72) C dX1_findLeftOut_72 rfl 0 rfl ?_
    refine q_get (pc := 73) (T := TX1) (v := .ref (gad G 55)) C (by decide) (ce_42 _ _ _) (ci := 1) rfl inlX1 (j := 16) (by decide) rfl tw_91 (Or.inl rfl) dX1_findLeftOut_73 ?_
    refine q_get (pc := 76) (T := TX5) (v := .int (S 55 2)) C (by decide) (ce_55 _ _ _) (ci := 5) rfl inlX5 (j := 2) (by decide) rfl tw_352 (Or.inl rfl) dX1_findLeftOut_76 ?_
    refine q_icmp_ge (pc := 79) (tgt := 113) C dX1_findLeftOut_79 (by decide) (fun c1 => ?_) (fun c1 => ?_)
    · replace hm := hm_t c1 hm
      cases hm
      refine q_lv (lv' := []) [] rfl ?_
      exact kk
    · replace hm := hm_f c1 hm
      refine q_iload_n (pc := 82) C dX1_findLeftOut_82 rfl 1 rfl ?_
      refine q_bipush (pc := 83) (v := (80 : Int32)) C dX1_findLeftOut_83 (by decide) ?_
      refine q_icmp_ge (pc := 85) (tgt := 113) C dX1_findLeftOut_85 (by decide) (fun c2 => ?_) (fun c2 => ?_)
      · replace hm := hm_t c2 hm
        cases hm
        refine q_lv (lv' := []) [] rfl ?_
        exact kk
      · replace hm := hm_f c2 hm
        refine q_aload_n (pc := 88) C dX1_findLeftOut_88 rfl 0 rfl ?_
        refine q_get (pc := 89) (T := TX1) (v := .ref (gad G 1)) C (by decide) (ce_42 _ _ _) (ci := 1) rfl inlX1 (j := 1) (by decide) rfl tw_311 (Or.inr tw_312) dX1_findLeftOut_89 ?_
        refine q_aload_n (pc := 92) C dX1_findLeftOut_92 rfl 0 rfl ?_
        refine q_get (pc := 93) (T := TX1) (v := .ref (gad G 55)) C (by decide) (ce_42 _ _ _) (ci := 1) rfl inlX1 (j := 16) (by decide) rfl tw_91 (Or.inl rfl) dX1_findLeftOut_93 ?_
        refine q_iload_n (pc := 96) C dX1_findLeftOut_96 rfl 1 rfl ?_
        obtain ⟨r1, h1, hm⟩ := o1_some hm
        refine q_callV (pc := 97) (k := 55) (As := [.int v1]) (rest := [.ref (gad G 1)]) (T := TX5) C (c_Row_get_55 hi h1) (by decide) (ce_55 _ _ _) (ci := 5) rfl tw_369 tw_271 tw_272 tw_43 tw_273 (nA := 1) (by decide +kernel) rfl (by decide) (Nat.le_of_ble_eq_true rfl) rfl dX1_findLeftOut_97 ?_
        refine q_aload_n (pc := 100) C dX1_findLeftOut_100 rfl 0 rfl ?_
        refine q_get (pc := 101) (T := TX1) (v := .ref (gad G 55)) C (by decide) (ce_42 _ _ _) (ci := 1) rfl inlX1 (j := 16) (by decide) rfl tw_91 (Or.inl rfl) dX1_findLeftOut_101 ?_
        obtain ⟨S1, h2, hm⟩ := o1_some hm
        refine q_callV (pc := 104) (k := 1) (As := [.int r1, .ref (gad G 55)]) (rest := []) (T := TX2) C (c_Gr_addNamedBy_55 hi h2) (by decide) (ce_1 _ _ _) (ci := 2) rfl tw_370 tw_275 tw_276 tw_13 tw_277 (nA := 2) (by decide +kernel) rfl (by decide) (Nat.le_of_ble_eq_true rfl) rfl dX1_findLeftOut_104 ?_
        refine q_iinc (pc := 107) (k := 1) (v := (v1 + (1 : Int32))) (lv' := [(1, .int (v1 + (1 : Int32))), (0, .ref (gad G 42))]) C dX1_findLeftOut_107 rfl rfl (by decide) rfl ?_
        refine q_goto (pc := 110) (tgt := 71) C dX1_findLeftOut_110 (by decide) ?_
        refine q_lv (lv' := [(0, .ref (gad G 42)), (1, .int (v1 + (1 : Int32)))]) [1, 0] rfl ?_
        exact ih _ _ _ hm kk
set_option maxRecDepth 100000 in
theorem c_Cou_findLeftOut {G : Gx} (hi : qinj (gad G)) {S : St}  {zS : St} (hm : m_Cou_findLeftOut S  = some zS) : QMet G yX1_findLeftOut cX1_findLeftOut 3 none 2 45 [.ref (gad G 42)] S none zS := by
  refine q_entry (by decide +kernel) rfl hi (Nat.le_of_ble_eq_true rfl) ?_
  intro X C
  refine q_lv (lv' := [(0, .ref (gad G 42))]) [0] rfl ?_
  unfold m_Cou_findLeftOut at hm
  refine q_aload_n (pc := 0) C dX1_findLeftOut_0 rfl 0 rfl ?_
  refine q_get (pc := 1) (T := TX1) (v := .ref (gad G 55)) C (by decide) (ce_42 _ _ _) (ci := 1) rfl inlX1 (j := 16) (by decide) rfl tw_91 (Or.inl rfl) dX1_findLeftOut_1 ?_
  obtain ⟨S1, h1, hm⟩ := o1_some hm
  refine q_callV (pc := 4) (k := 55) (As := []) (rest := []) (T := TX5) C (c_Row_empty_55 hi h1) (by decide) (ce_55 _ _ _) (ci := 5) rfl tw_360 tw_124 tw_125 tw_43 tw_126 (nA := 0) (by decide +kernel) rfl (by decide) (Nat.le_of_ble_eq_true rfl) rfl dX1_findLeftOut_4 ?_
  refine q_iconst (pc := 7) (v := (0 : Int32)) C dX1_findLeftOut_7 (by decide) ?_
  refine q_istore_n (pc := 8) (lv' := [(1, .int (0 : Int32)), (0, .ref (gad G 42))]) C dX1_findLeftOut_8 rfl (by decide) rfl ?_
  refine q_lv (lv' := [(0, .ref (gad G 42)), (1, .int (0 : Int32))]) [1, 0] rfl ?_
  obtain ⟨S2, h2, hm⟩ := o1_some hm
  refine w_Cou_findLeftOut_L9 hi C 200 _ _ _ h2 ?_
  refine q_iconst (pc := 69) (v := (0 : Int32)) C dX1_findLeftOut_69 (by decide) ?_
  refine q_istore_n (pc := 70) (lv' := [(1, .int (0 : Int32)), (0, .ref (gad G 42))]) C dX1_findLeftOut_70 rfl (by decide) rfl ?_
  refine q_lv (lv' := [(0, .ref (gad G 42)), (1, .int (0 : Int32))]) [1, 0] rfl ?_
  obtain ⟨S3, h3, hm⟩ := o1_some hm
  refine w_Cou_findLeftOut_L71 hi C 200 _ _ _ h3 ?_
  cases hm
  exact q_vret (pc := 113) C dX1_findLeftOut_113
set_option maxRecDepth 100000 in
theorem w_Cou_findRings_L9 {G : Gx} (hi : qinj (gad G)) {X : Cx} (C : QC G X cX1_findRings 2 RX1 3 67 none) {Q : State → Prop} : ∀ (n : Nat) (S : St) (v1 : Int32) (zS : St), m_Cou_findRings_L9 n S v1 = some zS → QW G X 2 Q 42 [(0, .ref (gad G 42))] [] zS → QW G X 2 Q 9 [(0, .ref (gad G 42)), (1, .int v1)] [] S := by
  intro n
  induction n with
  | zero =>
    intro S v1 zS hm kk
    rw [m_Cou_findRings_L9] at hm
    cases hm
  | succ n ih =>
    intro S v1 zS hm kk
    rw [m_Cou_findRings_L9] at hm
    refine q_iload_n (pc := 9) C dX1_findRings_9 rfl 1 rfl ?_
    refine q_aload_n (pc := 10) C dX1_findRings_10 rfl 0 rfl ?_
    refine q_get (pc := 11) (T := TX1) (v := .ref (gad G 1)) C (by decide) (ce_42 _ _ _) (ci := 1) rfl inlX1 (j := 1) (by decide) rfl tw_311 (Or.inr tw_312) dX1_findRings_11 ?_
    refine q_get (pc := 14) (T := TX2) (v := .int (S 1 6)) C (by decide) (ce_1 _ _ _) (ci := 2) rfl inlX2 (j := 6) (by decide) rfl tw_359 (Or.inl rfl) dX1_findRings_14 ?_
    refine q_icmp_ge (pc := 17) (tgt := 42) C dX1_findRings_17 (by decide) (fun c1 => ?_) (fun c1 => ?_)
    · replace hm := hm_t c1 hm
      cases hm
      refine q_lv (lv' := [(0, .ref (gad G 42))]) [0] rfl ?_
      exact kk
    · replace hm := hm_f c1 hm
      refine q_aload_n (pc := 20) C dX1_findRings_20 rfl 0 rfl ?_
      refine q_iload_n (pc := 21) C dX1_findRings_21 rfl 1 rfl ?_
      obtain ⟨r1, h1, hm⟩ := o1_some hm
      refine q_callV (pc := 22) (k := 42) (As := [.int v1]) (rest := []) (T := TX1) C (c_Cou_isSuspect hi h1) (by decide) (ce_42 _ _ _) (ci := 1) rfl tw_361 tw_362 tw_363 tw_22 tw_364 (nA := 1) (by decide +kernel) rfl (by decide) (Nat.le_of_ble_eq_true rfl) rfl dX1_findRings_22 ?_
      refine q_if_eq (pc := 25) (tgt := 36) C dX1_findRings_25 (by decide) (fun c2 => ?_) (fun c2 => ?_)
      · replace hm := hm_t c2 hm
        refine q_iinc (pc := 36) (k := 1) (v := (v1 + (1 : Int32))) (lv' := [(1, .int (v1 + (1 : Int32))), (0, .ref (gad G 42))]) C dX1_findRings_36 rfl rfl (by decide) rfl ?_
        refine q_goto (pc := 39) (tgt := 9) C dX1_findRings_39 (by decide) ?_
        refine q_lv (lv' := [(0, .ref (gad G 42)), (1, .int (v1 + (1 : Int32)))]) [1, 0] rfl ?_
        exact ih _ _ _ hm kk
      · replace hm := hm_f c2 hm
        refine q_aload_n (pc := 28) C dX1_findRings_28 rfl 0 rfl ?_
        refine q_get (pc := 29) (T := TX1) (v := .ref (gad G 52)) C (by decide) (ce_42 _ _ _) (ci := 1) rfl inlX1 (j := 15) (by decide) rfl tw_90 (Or.inl rfl) dX1_findRings_29 ?_
        refine q_iload_n (pc := 32) C dX1_findRings_32 rfl 1 rfl ?_
        obtain ⟨S1, h2, hm⟩ := o1_some hm
        refine q_callV (pc := 33) (k := 52) (As := [.int v1]) (rest := []) (T := TX5) C (c_Row_add_52 hi h2) (by decide) (ce_52 _ _ _) (ci := 5) rfl tw_368 tw_267 tw_268 tw_43 tw_269 (nA := 1) (by decide +kernel) rfl (by decide) (Nat.le_of_ble_eq_true rfl) rfl dX1_findRings_33 ?_
        refine q_iinc (pc := 36) (k := 1) (v := (v1 + (1 : Int32))) (lv' := [(1, .int (v1 + (1 : Int32))), (0, .ref (gad G 42))]) C dX1_findRings_36 rfl rfl (by decide) rfl ?_
        refine q_goto (pc := 39) (tgt := 9) C dX1_findRings_39 (by decide) ?_
        refine q_lv (lv' := [(0, .ref (gad G 42)), (1, .int (v1 + (1 : Int32)))]) [1, 0] rfl ?_
        exact ih _ _ _ hm kk
set_option maxRecDepth 100000 in
theorem w_Cou_findRings_L44 {G : Gx} (hi : qinj (gad G)) {X : Cx} (C : QC G X cX1_findRings 2 RX1 3 67 none) {Q : State → Prop} : ∀ (n : Nat) (S : St) (v1 : Int32) (zS : St), m_Cou_findRings_L44 n S v1 = some zS → QW G X 2 Q 86 [(0, .ref (gad G 42))] [] zS → QW G X 2 Q 44 [(0, .ref (gad G 42)), (1, .int v1)] [] S := by
  intro n
  induction n with
  | zero =>
    intro S v1 zS hm kk
    rw [m_Cou_findRings_L44] at hm
    cases hm
  | succ n ih =>
    intro S v1 zS hm kk
    rw [m_Cou_findRings_L44] at hm
    refine q_iload_n (pc := 44) C dX1_findRings_44 rfl 1 rfl ?_
    refine q_aload_n (pc := 45) C dX1_findRings_45 rfl 0 rfl ?_
    refine q_get (pc := 46) (T := TX1) (v := .ref (gad G 52)) C (by decide) (ce_42 _ _ _) (ci := 1) rfl inlX1 (j := 15) (by decide) rfl tw_90 (Or.inl rfl) dX1_findRings_46 ?_
    refine q_get (pc := 49) (T := TX5) (v := .int (S 52 2)) C (by decide) (ce_52 _ _ _) (ci := 5) rfl inlX5 (j := 2) (by decide) rfl tw_352 (Or.inl rfl) dX1_findRings_49 ?_
    refine q_icmp_ge (pc := 52) (tgt := 86) C dX1_findRings_52 (by decide) (fun c1 => ?_) (fun c1 => ?_)
    · replace hm := hm_t c1 hm
      cases hm
      refine q_lv (lv' := [(0, .ref (gad G 42))]) [0] rfl ?_
      exact kk
    · replace hm := hm_f c1 hm
      refine q_iload_n (pc := 55) C dX1_findRings_55 rfl 1 rfl ?_
      refine q_bipush (pc := 56) (v := (80 : Int32)) C dX1_findRings_56 (by decide) ?_
      refine q_icmp_ge (pc := 58) (tgt := 86) C dX1_findRings_58 (by decide) (fun c2 => ?_) (fun c2 => ?_)
      · replace hm := hm_t c2 hm
        cases hm
        refine q_lv (lv' := [(0, .ref (gad G 42))]) [0] rfl ?_
        exact kk
      · replace hm := hm_f c2 hm
        refine q_aload_n (pc := 61) C dX1_findRings_61 rfl 0 rfl ?_
        refine q_get (pc := 62) (T := TX1) (v := .ref (gad G 1)) C (by decide) (ce_42 _ _ _) (ci := 1) rfl inlX1 (j := 1) (by decide) rfl tw_311 (Or.inr tw_312) dX1_findRings_62 ?_
        refine q_aload_n (pc := 65) C dX1_findRings_65 rfl 0 rfl ?_
        refine q_get (pc := 66) (T := TX1) (v := .ref (gad G 52)) C (by decide) (ce_42 _ _ _) (ci := 1) rfl inlX1 (j := 15) (by decide) rfl tw_90 (Or.inl rfl) dX1_findRings_66 ?_
        refine q_iload_n (pc := 69) C dX1_findRings_69 rfl 1 rfl ?_
        obtain ⟨r1, h1, hm⟩ := o1_some hm
        refine q_callV (pc := 70) (k := 52) (As := [.int v1]) (rest := [.ref (gad G 1)]) (T := TX5) C (c_Row_get_52 hi h1) (by decide) (ce_52 _ _ _) (ci := 5) rfl tw_369 tw_271 tw_272 tw_43 tw_273 (nA := 1) (by decide +kernel) rfl (by decide) (Nat.le_of_ble_eq_true rfl) rfl dX1_findRings_70 ?_
        refine q_aload_n (pc := 73) C dX1_findRings_73 rfl 0 rfl ?_
        refine q_get (pc := 74) (T := TX1) (v := .ref (gad G 52)) C (by decide) (ce_42 _ _ _) (ci := 1) rfl inlX1 (j := 15) (by decide) rfl tw_90 (Or.inl rfl) dX1_findRings_74 ?_
        obtain ⟨S1, h2, hm⟩ := o1_some hm
        refine q_callV (pc := 77) (k := 1) (As := [.int r1, .ref (gad G 52)]) (rest := []) (T := TX2) C (c_Gr_addNamedBy_52 hi h2) (by decide) (ce_1 _ _ _) (ci := 2) rfl tw_370 tw_275 tw_276 tw_13 tw_277 (nA := 2) (by decide +kernel) rfl (by decide) (Nat.le_of_ble_eq_true rfl) rfl dX1_findRings_77 ?_
        refine q_iinc (pc := 80) (k := 1) (v := (v1 + (1 : Int32))) (lv' := [(1, .int (v1 + (1 : Int32))), (0, .ref (gad G 42))]) C dX1_findRings_80 rfl rfl (by decide) rfl ?_
        refine q_goto (pc := 83) (tgt := 44) C dX1_findRings_83 (by decide) ?_
        refine q_lv (lv' := [(0, .ref (gad G 42)), (1, .int (v1 + (1 : Int32)))]) [1, 0] rfl ?_
        exact ih _ _ _ hm kk
set_option maxRecDepth 100000 in
theorem c_Cou_findRings {G : Gx} (hi : qinj (gad G)) {S : St}  {zS : St} (hm : m_Cou_findRings S  = some zS) : QMet G yX1_findRings cX1_findRings 2 none 3 67 [.ref (gad G 42)] S none zS := by
  refine q_entry (by decide +kernel) rfl hi (Nat.le_of_ble_eq_true rfl) ?_
  intro X C
  refine q_lv (lv' := [(0, .ref (gad G 42))]) [0] rfl ?_
  unfold m_Cou_findRings at hm
  refine q_aload_n (pc := 0) C dX1_findRings_0 rfl 0 rfl ?_
  refine q_get (pc := 1) (T := TX1) (v := .ref (gad G 52)) C (by decide) (ce_42 _ _ _) (ci := 1) rfl inlX1 (j := 15) (by decide) rfl tw_90 (Or.inl rfl) dX1_findRings_1 ?_
  obtain ⟨S1, h1, hm⟩ := o1_some hm
  refine q_callV (pc := 4) (k := 52) (As := []) (rest := []) (T := TX5) C (c_Row_empty_52 hi h1) (by decide) (ce_52 _ _ _) (ci := 5) rfl tw_360 tw_124 tw_125 tw_43 tw_126 (nA := 0) (by decide +kernel) rfl (by decide) (Nat.le_of_ble_eq_true rfl) rfl dX1_findRings_4 ?_
  refine q_iconst (pc := 7) (v := (0 : Int32)) C dX1_findRings_7 (by decide) ?_
  refine q_istore_n (pc := 8) (lv' := [(1, .int (0 : Int32)), (0, .ref (gad G 42))]) C dX1_findRings_8 rfl (by decide) rfl ?_
  refine q_lv (lv' := [(0, .ref (gad G 42)), (1, .int (0 : Int32))]) [1, 0] rfl ?_
  obtain ⟨S2, h2, hm⟩ := o1_some hm
  refine w_Cou_findRings_L9 hi C 200 _ _ _ h2 ?_
  refine q_iconst (pc := 42) (v := (0 : Int32)) C dX1_findRings_42 (by decide) ?_
  refine q_istore_n (pc := 43) (lv' := [(1, .int (0 : Int32)), (0, .ref (gad G 42))]) C dX1_findRings_43 rfl (by decide) rfl ?_
  refine q_lv (lv' := [(0, .ref (gad G 42)), (1, .int (0 : Int32))]) [1, 0] rfl ?_
  obtain ⟨S3, h3, hm⟩ := o1_some hm
  refine w_Cou_findRings_L44 hi C 200 _ _ _ h3 ?_
  refine q_aload_n (pc := 86) C dX1_findRings_86 rfl 0 rfl ?_
  obtain ⟨S4, h4, hm⟩ := o1_some hm
  refine q_callV (pc := 87) (k := 42) (As := []) (rest := []) (T := TX1) C (c_Cou_countNamedInside hi h4) (by decide) (ce_42 _ _ _) (ci := 1) rfl tw_371 tw_372 tw_373 tw_22 tw_374 (nA := 0) (by decide +kernel) rfl (by decide) (Nat.le_of_ble_eq_true rfl) rfl dX1_findRings_87 ?_
  refine q_aload_n (pc := 90) C dX1_findRings_90 rfl 0 rfl ?_
  obtain ⟨S5, h5, hm⟩ := o1_some hm
  refine q_callV (pc := 91) (k := 42) (As := []) (rest := []) (T := TX1) C (c_Cou_findLeftOut hi h5) (by decide) (ce_42 _ _ _) (ci := 1) rfl tw_379 tw_380 tw_381 tw_22 tw_382 (nA := 0) (by decide +kernel) rfl (by decide) (Nat.le_of_ble_eq_true rfl) rfl dX1_findRings_91 ?_
  cases hm
  exact q_vret (pc := 94) C dX1_findRings_94
set_option maxRecDepth 100000 in
theorem c_Row_holds_55 {G : Gx} (hi : qinj (gad G)) {S : St} {a1 : Int32} {zr : Int32} (hm : m_Row_holds 55 S a1 = some zr) : QMet G yX5_holds cX5_holds 2 (some .boolean) 0 0 [.ref (gad G 55), .int a1] S (some (.int zr)) S := by
  refine q_entry (by decide +kernel) rfl hi (Nat.le_of_ble_eq_true rfl) ?_
  intro X C
  refine q_lv (lv' := [(0, .ref (gad G 55)), (1, .int a1)]) [0, 1] rfl ?_
  unfold m_Row_holds at hm
  refine q_iload_n (pc := 0) C dX5_holds_0 rfl 1 rfl ?_
  refine q_if_lt (pc := 1) (tgt := 23) C dX5_holds_1 (by decide) (fun c1 => ?_) (fun c1 => ?_)
  · replace hm := hm_t c1 hm
    refine q_iconst (pc := 23) (v := (0 : Int32)) C dX5_holds_23 (by decide) ?_
    cases hm
    exact q_zret (pc := 24) C (by decide) dX5_holds_24
  · replace hm := hm_f c1 hm
    refine q_iload_n (pc := 4) C dX5_holds_4 rfl 1 rfl ?_
    refine q_bipush (pc := 5) (v := (80 : Int32)) C dX5_holds_5 (by decide) ?_
    refine q_icmp_ge (pc := 7) (tgt := 23) C dX5_holds_7 (by decide) (fun c2 => ?_) (fun c2 => ?_)
    · replace hm := hm_t c2 hm
      refine q_iconst (pc := 23) (v := (0 : Int32)) C dX5_holds_23 (by decide) ?_
      cases hm
      exact q_zret (pc := 24) C (by decide) dX5_holds_24
    · replace hm := hm_f c2 hm
      refine q_aload_n (pc := 10) C dX5_holds_10 rfl 0 rfl ?_
      refine q_get (pc := 11) (T := TX5) (v := .ref (gad G 57)) C (by decide) (ce_55 _ _ _) (ci := 5) rfl inlX5 (j := 1) (by decide) rfl tw_50 (Or.inl rfl) dX5_holds_11 ?_
      refine q_iload_n (pc := 14) C dX5_holds_14 rfl 1 rfl ?_
      obtain ⟨b1, hm⟩ := oi_some hm
      refine q_zald (pc := 15) C (by decide) (ce_57 _ _ _) (ty_57 _) b1 dX5_holds_15 ?_
      refine q_if_eq (pc := 16) (tgt := 23) C dX5_holds_16 (by decide) (fun c3 => ?_) (fun c3 => ?_)
      · replace hm := hm_t c3 hm
        refine q_iconst (pc := 23) (v := (0 : Int32)) C dX5_holds_23 (by decide) ?_
        cases hm
        exact q_zret (pc := 24) C (by decide) dX5_holds_24
      · replace hm := hm_f c3 hm
        refine q_iconst (pc := 19) (v := (1 : Int32)) C dX5_holds_19 (by decide) ?_
        refine q_goto (pc := 20) (tgt := 24) C dX5_holds_20 (by decide) ?_
        cases hm
        exact q_zret (pc := 24) C (by decide) dX5_holds_24
set_option maxRecDepth 100000 in
theorem w_Cou_letRingGo_L7 {G : Gx} (hi : qinj (gad G)) {X : Cx} (C : QC G X cX1_letRingGo 4 RX1 1 22 none) {Q : State → Prop} : ∀ (n : Nat) (S : St) (v1 : Int32) (v2 : Int32) (zS : St), m_Cou_letRingGo_L7 n S v1 v2 = some zS → QW G X 4 Q 53 [] [] zS → QW G X 4 Q 7 [(0, .ref (gad G 42)), (1, .int v1), (2, .int v2)] [] S := by
  intro n
  induction n with
  | zero =>
    intro S v1 v2 zS hm kk
    rw [m_Cou_letRingGo_L7] at hm
    cases hm
  | succ n ih =>
    intro S v1 v2 zS hm kk
    rw [m_Cou_letRingGo_L7] at hm
    refine q_iload_n (pc := 7) C dX1_letRingGo_7 rfl 2 rfl ?_
    refine q_aload_n (pc := 8) C dX1_letRingGo_8 rfl 0 rfl ?_
    refine q_get (pc := 9) (T := TX1) (v := .ref (gad G 1)) C (by decide) (ce_42 _ _ _) (ci := 1) rfl inlX1 (j := 1) (by decide) rfl tw_311 (Or.inr tw_312) dX1_letRingGo_9 ?_
    refine q_iload_n (pc := 12) C dX1_letRingGo_12 rfl 1 rfl ?_
    obtain ⟨r1, h1, hm⟩ := o1_some hm
    refine q_callV (pc := 13) (k := 1) (As := [.int v1]) (rest := [.int v2]) (T := TX2) C (c_Gr_fieldsOf hi h1) (by decide) (ce_1 _ _ _) (ci := 2) rfl tw_376 tw_279 tw_280 tw_13 tw_281 (nA := 1) (by decide +kernel) rfl (by decide) (Nat.le_of_ble_eq_true rfl) rfl dX1_letRingGo_13 ?_
    refine q_icmp_ge (pc := 16) (tgt := 53) C dX1_letRingGo_16 (by decide) (fun c1 => ?_) (fun c1 => ?_)
    · replace hm := hm_t c1 hm
      cases hm
      refine q_lv (lv' := []) [] rfl ?_
      exact kk
    · replace hm := hm_f c1 hm
      refine q_aload_n (pc := 19) C dX1_letRingGo_19 rfl 0 rfl ?_
      refine q_get (pc := 20) (T := TX1) (v := .ref (gad G 1)) C (by decide) (ce_42 _ _ _) (ci := 1) rfl inlX1 (j := 1) (by decide) rfl tw_311 (Or.inr tw_312) dX1_letRingGo_20 ?_
      refine q_iload_n (pc := 23) C dX1_letRingGo_23 rfl 1 rfl ?_
      refine q_iload_n (pc := 24) C dX1_letRingGo_24 rfl 2 rfl ?_
      obtain ⟨r2, h2, hm⟩ := o1_some hm
      refine q_callV (pc := 25) (k := 1) (As := [.int v1, .int v2]) (rest := []) (T := TX2) C (c_Gr_nameOf hi h2) (by decide) (ce_1 _ _ _) (ci := 2) rfl tw_377 tw_283 tw_284 tw_13 tw_285 (nA := 2) (by decide +kernel) rfl (by decide) (Nat.le_of_ble_eq_true rfl) rfl dX1_letRingGo_25 ?_
      refine q_istore_n (pc := 28) (lv' := [(3, .int r2), (0, .ref (gad G 42)), (1, .int v1), (2, .int v2)]) C dX1_letRingGo_28 rfl (by decide) rfl ?_
      refine q_aload_n (pc := 29) C dX1_letRingGo_29 rfl 1 rfl ?_
      refine q_iload_n (pc := 30) C dX1_letRingGo_30 rfl 0 rfl ?_
      obtain ⟨r3, h3, hm⟩ := o1_some hm
      refine q_callU (pc := 31) (k := 42) (As := [.int r2]) (rest := []) (T := TX1) (owner := "Tessera$Store") (x := ⟨"Tessera$Counting", "has", "(I)Z"⟩) C (c_St_has_42 hi h3) (by decide) (ce_42 _ _ _) (ci := 1) rfl (Or.inl rfl) tw_365 tw_366 tw_256 tw_367 tw_62 tw_257 (nA := 1) (by decide +kernel) rfl (by decide) (Nat.le_of_ble_eq_true rfl) rfl dX1_letRingGo_31 ?_
      refine q_if_eq (pc := 34) (tgt := 47) C dX1_letRingGo_34 (by decide) (fun c2 => ?_) (fun c2 => ?_)
      · replace hm := hm_t c2 hm
        refine q_iinc (pc := 47) (k := 3) (v := (v2 + (1 : Int32))) (lv' := [(2, .int (v2 + (1 : Int32))), (3, .int r2), (0, .ref (gad G 42)), (1, .int v1)]) C dX1_letRingGo_47 rfl rfl (by decide) rfl ?_
        refine q_goto (pc := 50) (tgt := 7) C dX1_letRingGo_50 (by decide) ?_
        refine q_lv (lv' := [(0, .ref (gad G 42)), (1, .int v1), (2, .int (v2 + (1 : Int32)))]) [2, 3, 0] rfl ?_
        exact ih _ _ _ _ hm kk
      · replace hm := hm_f c2 hm
        refine q_aload_n (pc := 37) C dX1_letRingGo_37 rfl 1 rfl ?_
        refine q_get (pc := 38) (T := TX1) (v := .ref (gad G 46)) C (by decide) (ce_42 _ _ _) (ci := 1) rfl inlX1 (j := 11) (by decide) rfl tw_85 (Or.inl rfl) dX1_letRingGo_38 ?_
        refine q_iload_n (pc := 41) C dX1_letRingGo_41 rfl 0 rfl ?_
        refine q_dup2 (pc := 42) C dX1_letRingGo_42 rfl rfl ?_
        obtain ⟨b1, hm⟩ := oi_some hm
        refine q_iald (pc := 43) C (by decide) (ce_46 _ _ _) (ty_46 _) b1 dX1_letRingGo_43 ?_
        refine q_iconst (pc := 44) (v := (1 : Int32)) C dX1_letRingGo_44 (by decide) ?_
        refine q_isub (pc := 45) C dX1_letRingGo_45 ?_
        obtain ⟨b2, hm⟩ := oi_some hm
        refine q_iast (pc := 46) C (by decide) (fun _ => ce_46 _ _ _) (ty_46 _) b2 dX1_letRingGo_46 ?_
        refine q_iinc (pc := 47) (k := 3) (v := (v2 + (1 : Int32))) (lv' := [(2, .int (v2 + (1 : Int32))), (3, .int r2), (0, .ref (gad G 42)), (1, .int v1)]) C dX1_letRingGo_47 rfl rfl (by decide) rfl ?_
        refine q_goto (pc := 50) (tgt := 7) C dX1_letRingGo_50 (by decide) ?_
        refine q_lv (lv' := [(0, .ref (gad G 42)), (1, .int v1), (2, .int (v2 + (1 : Int32)))]) [2, 3, 0] rfl ?_
        exact ih _ _ _ _ hm kk
set_option maxRecDepth 100000 in
theorem c_Cou_letRingGo {G : Gx} (hi : qinj (gad G)) {S : St} {a1 : Int32} {zS : St} (hm : m_Cou_letRingGo S a1 = some zS) : QMet G yX1_letRingGo cX1_letRingGo 4 none 1 22 [.ref (gad G 42), .int a1] S none zS := by
  refine q_entry (by decide +kernel) rfl hi (Nat.le_of_ble_eq_true rfl) ?_
  intro X C
  refine q_lv (lv' := [(0, .ref (gad G 42)), (1, .int a1)]) [0, 1] rfl ?_
  unfold m_Cou_letRingGo at hm
  refine q_aload_n (pc := 0) C dX1_letRingGo_0 rfl 0 rfl ?_
  refine q_iload_n (pc := 1) C dX1_letRingGo_1 rfl 1 rfl ?_
  obtain ⟨S1, h1, hm⟩ := o1_some hm
  refine q_callU (pc := 2) (k := 42) (As := [.int a1]) (rest := []) (T := TX1) (owner := "Tessera$Store") (x := ⟨"Tessera$Counting", "letGo", "(I)V"⟩) C (c_St_letGo_42 hi h1) (by decide) (ce_42 _ _ _) (ci := 1) rfl (Or.inl rfl) tw_391 tw_392 tw_394 tw_393 tw_62 tw_395 (nA := 1) (by decide +kernel) rfl (by decide) (Nat.le_of_ble_eq_true rfl) rfl dX1_letRingGo_2 ?_
  refine q_iconst (pc := 5) (v := (0 : Int32)) C dX1_letRingGo_5 (by decide) ?_
  refine q_istore_n (pc := 6) (lv' := [(2, .int (0 : Int32)), (0, .ref (gad G 42)), (1, .int a1)]) C dX1_letRingGo_6 rfl (by decide) rfl ?_
  refine q_lv (lv' := [(0, .ref (gad G 42)), (1, .int a1), (2, .int (0 : Int32))]) [1, 2, 0] rfl ?_
  obtain ⟨S2, h2, hm⟩ := o1_some hm
  refine w_Cou_letRingGo_L7 hi C 200 _ _ _ _ h2 ?_
  cases hm
  exact q_vret (pc := 53) C dX1_letRingGo_53
set_option maxRecDepth 100000 in
theorem w_Cou_collectNow_L38 {G : Gx} (hi : qinj (gad G)) {X : Cx} (C : QC G X cX1_collectNow 3 RX1 4 88 (some .int)) {Q : State → Prop} : ∀ (n : Nat) (S : St) (v1 : Int32) (v2 : Int32) (zS : St), m_Cou_collectNow_L38 n S v2 = some zS → QW G X 3 Q 85 [(0, .ref (gad G 42)), (1, .int v1)] [] zS → QW G X 3 Q 38 [(0, .ref (gad G 42)), (1, .int v1), (2, .int v2)] [] S := by
  intro n
  induction n with
  | zero =>
    intro S v1 v2 zS hm kk
    rw [m_Cou_collectNow_L38] at hm
    cases hm
  | succ n ih =>
    intro S v1 v2 zS hm kk
    rw [m_Cou_collectNow_L38] at hm
    refine q_iload_n (pc := 38) C dX1_collectNow_38 rfl 2 rfl ?_
    refine q_aload_n (pc := 39) C dX1_collectNow_39 rfl 0 rfl ?_
    refine q_get (pc := 40) (T := TX1) (v := .ref (gad G 52)) C (by decide) (ce_42 _ _ _) (ci := 1) rfl inlX1 (j := 15) (by decide) rfl tw_90 (Or.inl rfl) dX1_collectNow_40 ?_
    refine q_get (pc := 43) (T := TX5) (v := .int (S 52 2)) C (by decide) (ce_52 _ _ _) (ci := 5) rfl inlX5 (j := 2) (by decide) rfl tw_352 (Or.inl rfl) dX1_collectNow_43 ?_
    refine q_icmp_ge (pc := 46) (tgt := 85) C dX1_collectNow_46 (by decide) (fun c1 => ?_) (fun c1 => ?_)
    · replace hm := hm_t c1 hm
      cases hm
      refine q_lv (lv' := [(0, .ref (gad G 42)), (1, .int v1)]) [0, 1] rfl ?_
      exact kk
    · replace hm := hm_f c1 hm
      refine q_aload_n (pc := 49) C dX1_collectNow_49 rfl 0 rfl ?_
      refine q_get (pc := 50) (T := TX1) (v := .ref (gad G 55)) C (by decide) (ce_42 _ _ _) (ci := 1) rfl inlX1 (j := 16) (by decide) rfl tw_91 (Or.inl rfl) dX1_collectNow_50 ?_
      refine q_aload_n (pc := 53) C dX1_collectNow_53 rfl 0 rfl ?_
      refine q_get (pc := 54) (T := TX1) (v := .ref (gad G 52)) C (by decide) (ce_42 _ _ _) (ci := 1) rfl inlX1 (j := 15) (by decide) rfl tw_90 (Or.inl rfl) dX1_collectNow_54 ?_
      refine q_iload_n (pc := 57) C dX1_collectNow_57 rfl 2 rfl ?_
      obtain ⟨r1, h1, hm⟩ := o1_some hm
      refine q_callV (pc := 58) (k := 52) (As := [.int v2]) (rest := [.ref (gad G 55)]) (T := TX5) C (c_Row_get_52 hi h1) (by decide) (ce_52 _ _ _) (ci := 5) rfl tw_369 tw_271 tw_272 tw_43 tw_273 (nA := 1) (by decide +kernel) rfl (by decide) (Nat.le_of_ble_eq_true rfl) rfl dX1_collectNow_58 ?_
      obtain ⟨r2, h2, hm⟩ := o1_some hm
      refine q_callV (pc := 61) (k := 55) (As := [.int r1]) (rest := []) (T := TX5) C (c_Row_holds_55 hi h2) (by decide) (ce_55 _ _ _) (ci := 5) rfl tw_383 tw_384 tw_385 tw_43 tw_386 (nA := 1) (by decide +kernel) rfl (by decide) (Nat.le_of_ble_eq_true rfl) rfl dX1_collectNow_61 ?_
      refine q_if_ne (pc := 64) (tgt := 79) C dX1_collectNow_64 (by decide) (fun c2 => ?_) (fun c2 => ?_)
      · replace hm := hm_f c2 hm
        refine q_iinc (pc := 79) (k := 2) (v := (v2 + (1 : Int32))) (lv' := [(2, .int (v2 + (1 : Int32))), (0, .ref (gad G 42)), (1, .int v1)]) C dX1_collectNow_79 rfl rfl (by decide) rfl ?_
        refine q_goto (pc := 82) (tgt := 38) C dX1_collectNow_82 (by decide) ?_
        refine q_lv (lv' := [(0, .ref (gad G 42)), (1, .int v1), (2, .int (v2 + (1 : Int32)))]) [1, 2, 0] rfl ?_
        exact ih _ _ _ _ hm kk
      · replace hm := hm_t c2 hm
        refine q_aload_n (pc := 67) C dX1_collectNow_67 rfl 0 rfl ?_
        refine q_aload_n (pc := 68) C dX1_collectNow_68 rfl 0 rfl ?_
        refine q_get (pc := 69) (T := TX1) (v := .ref (gad G 52)) C (by decide) (ce_42 _ _ _) (ci := 1) rfl inlX1 (j := 15) (by decide) rfl tw_90 (Or.inl rfl) dX1_collectNow_69 ?_
        refine q_iload_n (pc := 72) C dX1_collectNow_72 rfl 2 rfl ?_
        obtain ⟨r3, h3, hm⟩ := o1_some hm
        refine q_callV (pc := 73) (k := 52) (As := [.int v2]) (rest := [.ref (gad G 42)]) (T := TX5) C (c_Row_get_52 hi h3) (by decide) (ce_52 _ _ _) (ci := 5) rfl tw_369 tw_271 tw_272 tw_43 tw_273 (nA := 1) (by decide +kernel) rfl (by decide) (Nat.le_of_ble_eq_true rfl) rfl dX1_collectNow_73 ?_
        obtain ⟨S1, h4, hm⟩ := o1_some hm
        refine q_callV (pc := 76) (k := 42) (As := [.int r3]) (rest := []) (T := TX1) C (c_Cou_letRingGo hi h4) (by decide) (ce_42 _ _ _) (ci := 1) rfl tw_387 tw_388 tw_389 tw_22 tw_390 (nA := 1) (by decide +kernel) rfl (by decide) (Nat.le_of_ble_eq_true rfl) rfl dX1_collectNow_76 ?_
        refine q_iinc (pc := 79) (k := 2) (v := (v2 + (1 : Int32))) (lv' := [(2, .int (v2 + (1 : Int32))), (0, .ref (gad G 42)), (1, .int v1)]) C dX1_collectNow_79 rfl rfl (by decide) rfl ?_
        refine q_goto (pc := 82) (tgt := 38) C dX1_collectNow_82 (by decide) ?_
        refine q_lv (lv' := [(0, .ref (gad G 42)), (1, .int v1), (2, .int (v2 + (1 : Int32)))]) [1, 2, 0] rfl ?_
        exact ih _ _ _ _ hm kk
set_option maxRecDepth 100000 in
theorem w_Cou_collectNow_L87 {G : Gx} (hi : qinj (gad G)) {X : Cx} (C : QC G X cX1_collectNow 3 RX1 4 88 (some .int)) {Q : State → Prop} : ∀ (n : Nat) (S : St) (v1 : Int32) (v2 : Int32) (zS : St), m_Cou_collectNow_L87 n S v2 = some zS → QW G X 3 Q 106 [(0, .ref (gad G 42)), (1, .int v1)] [] zS → QW G X 3 Q 87 [(0, .ref (gad G 42)), (1, .int v1), (2, .int v2)] [] S := by
  intro n
  induction n with
  | zero =>
    intro S v1 v2 zS hm kk
    rw [m_Cou_collectNow_L87] at hm
    cases hm
  | succ n ih =>
    intro S v1 v2 zS hm kk
    rw [m_Cou_collectNow_L87] at hm
    refine q_iload_n (pc := 87) C dX1_collectNow_87 rfl 2 rfl ?_
    refine q_bipush (pc := 88) (v := (80 : Int32)) C dX1_collectNow_88 (by decide) ?_
    refine q_icmp_ge (pc := 90) (tgt := 106) C dX1_collectNow_90 (by decide) (fun c1 => ?_) (fun c1 => ?_)
    · replace hm := hm_t c1 hm
      cases hm
      refine q_lv (lv' := [(0, .ref (gad G 42)), (1, .int v1)]) [0, 1] rfl ?_
      exact kk
    · replace hm := hm_f c1 hm
      refine q_aload_n (pc := 93) C dX1_collectNow_93 rfl 0 rfl ?_
      refine q_get (pc := 94) (T := TX1) (v := .ref (gad G 47)) C (by decide) (ce_42 _ _ _) (ci := 1) rfl inlX1 (j := 12) (by decide) rfl tw_86 (Or.inl rfl) dX1_collectNow_94 ?_
      refine q_iload_n (pc := 97) C dX1_collectNow_97 rfl 2 rfl ?_
      refine q_iconst (pc := 98) (v := (0 : Int32)) C dX1_collectNow_98 (by decide) ?_
      obtain ⟨b1, hm⟩ := oi_some hm
      refine q_zast0 (pc := 99) C (by decide) (fun _ => ce_47 _ _ _) (ty_47 _) b1 dX1_collectNow_99 ?_
      refine q_iinc (pc := 100) (k := 2) (v := (v2 + (1 : Int32))) (lv' := [(2, .int (v2 + (1 : Int32))), (0, .ref (gad G 42)), (1, .int v1)]) C dX1_collectNow_100 rfl rfl (by decide) rfl ?_
      refine q_goto (pc := 103) (tgt := 87) C dX1_collectNow_103 (by decide) ?_
      refine q_lv (lv' := [(0, .ref (gad G 42)), (1, .int v1), (2, .int (v2 + (1 : Int32)))]) [1, 2, 0] rfl ?_
      exact ih _ _ _ _ hm kk
set_option maxRecDepth 100000 in
theorem c_Cou_collectNow {G : Gx} (hi : qinj (gad G)) {S : St}  {zr : Int32} {zS : St} (hm : m_Cou_collectNow S  = some (zr, zS)) : QMet G yX1_collectNow cX1_collectNow 3 (some .int) 4 88 [.ref (gad G 42)] S (some (.int zr)) zS := by
  refine q_entry (by decide +kernel) rfl hi (Nat.le_of_ble_eq_true rfl) ?_
  intro X C
  refine q_lv (lv' := [(0, .ref (gad G 42))]) [0] rfl ?_
  unfold m_Cou_collectNow at hm
  refine q_aload_n (pc := 0) C dX1_collectNow_0 rfl 0 rfl ?_
  obtain ⟨S1, h1, hm⟩ := o1_some hm
  refine q_callV (pc := 1) (k := 42) (As := []) (rest := []) (T := TX1) C (c_Cou_findRings hi h1) (by decide) (ce_42 _ _ _) (ci := 1) rfl tw_355 tw_356 tw_357 tw_22 tw_358 (nA := 0) (by decide +kernel) rfl (by decide) (Nat.le_of_ble_eq_true rfl) rfl dX1_collectNow_1 ?_
  refine q_aload_n (pc := 4) C dX1_collectNow_4 rfl 0 rfl ?_
  refine q_dup (pc := 5) C dX1_collectNow_5 rfl ?_
  refine q_get (pc := 6) (T := TX1) (v := .int (S1 42 3)) C (by decide) (ce_42 _ _ _) (ci := 1) rfl inlX1 (j := 3) (by decide) rfl tw_350 (Or.inr tw_351) dX1_collectNow_6 ?_
  refine q_aload_n (pc := 9) C dX1_collectNow_9 rfl 0 rfl ?_
  refine q_get (pc := 10) (T := TX1) (v := .ref (gad G 52)) C (by decide) (ce_42 _ _ _) (ci := 1) rfl inlX1 (j := 15) (by decide) rfl tw_90 (Or.inl rfl) dX1_collectNow_10 ?_
  refine q_get (pc := 13) (T := TX5) (v := .int (S1 52 2)) C (by decide) (ce_52 _ _ _) (ci := 5) rfl inlX5 (j := 2) (by decide) rfl tw_352 (Or.inl rfl) dX1_collectNow_13 ?_
  refine q_iadd (pc := 16) C dX1_collectNow_16 ?_
  refine q_put (pc := 17) (T := TX1) (ty := .int) C tyX1 tyX1_ok nmX1 (by decide) (ce_42 _ _ _) (pe_42_3 _ _ _ _) (ci := 1) rfl inlX1 (j := 3) (by decide) (Nat.le_of_ble_eq_true rfl) tw_350 (Or.inr tw_351) rfl (by decide +kernel) rfl rfl dX1_collectNow_17 ?_
  refine q_aload_n (pc := 20) C dX1_collectNow_20 rfl 0 rfl ?_
  refine q_get (pc := 21) (T := TX1) (v := .ref (gad G 52)) C (by decide) (ce_42 _ _ _) (ci := 1) rfl inlX1 (j := 15) (by decide) rfl tw_90 (Or.inl rfl) dX1_collectNow_21 ?_
  refine q_get (pc := 24) (T := TX5) (v := .int (S1 52 2)) C (by decide) (ce_52 _ _ _) (ci := 5) rfl inlX5 (j := 2) (by decide) rfl tw_352 (Or.inl rfl) dX1_collectNow_24 ?_
  refine q_aload_n (pc := 27) C dX1_collectNow_27 rfl 0 rfl ?_
  refine q_get (pc := 28) (T := TX1) (v := .ref (gad G 55)) C (by decide) (ce_42 _ _ _) (ci := 1) rfl inlX1 (j := 16) (by decide) rfl tw_91 (Or.inl rfl) dX1_collectNow_28 ?_
  refine q_get (pc := 31) (T := TX5) (v := .int (S1 55 2)) C (by decide) (ce_55 _ _ _) (ci := 5) rfl inlX5 (j := 2) (by decide) rfl tw_352 (Or.inl rfl) dX1_collectNow_31 ?_
  refine q_isub (pc := 34) C dX1_collectNow_34 ?_
  refine q_istore_n (pc := 35) (lv' := [(1, .int ((S1 52 2) - (S1 55 2))), (0, .ref (gad G 42))]) C dX1_collectNow_35 rfl (by decide) rfl ?_
  refine q_iconst (pc := 36) (v := (0 : Int32)) C dX1_collectNow_36 (by decide) ?_
  refine q_istore_n (pc := 37) (lv' := [(2, .int (0 : Int32)), (1, .int ((S1 52 2) - (S1 55 2))), (0, .ref (gad G 42))]) C dX1_collectNow_37 rfl (by decide) rfl ?_
  refine q_lv (lv' := [(0, .ref (gad G 42)), (1, .int ((S1 52 2) - (S1 55 2))), (2, .int (0 : Int32))]) [2, 1, 0] rfl ?_
  obtain ⟨S2, h2, hm⟩ := o1_some hm
  refine w_Cou_collectNow_L38 hi C 200 _ _ _ _ h2 ?_
  refine q_iconst (pc := 85) (v := (0 : Int32)) C dX1_collectNow_85 (by decide) ?_
  refine q_istore_n (pc := 86) (lv' := [(2, .int (0 : Int32)), (0, .ref (gad G 42)), (1, .int ((S1 52 2) - (S1 55 2)))]) C dX1_collectNow_86 rfl (by decide) rfl ?_
  refine q_lv (lv' := [(0, .ref (gad G 42)), (1, .int ((S1 52 2) - (S1 55 2))), (2, .int (0 : Int32))]) [1, 2, 0] rfl ?_
  obtain ⟨S3, h3, hm⟩ := o1_some hm
  refine w_Cou_collectNow_L87 hi C 200 _ _ _ _ h3 ?_
  refine q_aload_n (pc := 106) C dX1_collectNow_106 rfl 0 rfl ?_
  refine q_dup (pc := 107) C dX1_collectNow_107 rfl ?_
  refine q_get (pc := 108) (T := TX1) (v := .int (S3 42 10)) C (by decide) (ce_42 _ _ _) (ci := 1) rfl inlX1 (j := 10) (by decide) rfl tw_178 (Or.inl rfl) dX1_collectNow_108 ?_
  refine q_iload_n (pc := 111) C dX1_collectNow_111 rfl 1 rfl ?_
  refine q_iadd (pc := 112) C dX1_collectNow_112 ?_
  refine q_put (pc := 113) (T := TX1) (ty := .int) C tyX1 tyX1_ok nmX1 (by decide) (ce_42 _ _ _) (pe_42_10 _ _ _ _) (ci := 1) rfl inlX1 (j := 10) (by decide) (Nat.le_of_ble_eq_true rfl) tw_178 (Or.inl rfl) rfl (by decide +kernel) rfl rfl dX1_collectNow_113 ?_
  refine q_aload_n (pc := 116) C dX1_collectNow_116 rfl 0 rfl ?_
  refine q_dup (pc := 117) C dX1_collectNow_117 rfl ?_
  refine q_get (pc := 118) (T := TX1) (v := .int (S3 42 5)) C (by decide) (ce_42 _ _ _) (ci := 1) rfl inlX1 (j := 5) (by decide) rfl tw_353 (Or.inr tw_354) dX1_collectNow_118 ?_
  refine q_iconst (pc := 121) (v := (1 : Int32)) C dX1_collectNow_121 (by decide) ?_
  refine q_iadd (pc := 122) C dX1_collectNow_122 ?_
  refine q_put (pc := 123) (T := TX1) (ty := .int) C tyX1 tyX1_ok nmX1 (by decide) (ce_42 _ _ _) (pe_42_5 _ _ _ _) (ci := 1) rfl inlX1 (j := 5) (by decide) (Nat.le_of_ble_eq_true rfl) tw_353 (Or.inr tw_354) rfl (by decide +kernel) rfl rfl dX1_collectNow_123 ?_
  refine q_iload_n (pc := 126) C dX1_collectNow_126 rfl 1 rfl ?_
  cases hm
  exact q_iret (pc := 127) C dX1_collectNow_127
