set_option maxRecDepth 100000 in
theorem w_law_S78 {G : Gx} (hi : qinj (gad G)) {X : Cx} {b L : Nat} {xs : Nat → Int32} (C : VC X cL_law 20 RL 12 436 600130 7301080) (CX : LX X b L xs) {Q : State → Prop} : ∀ (S : St) (v2 : Int32) (v4 : Int32) (v5 : Int32) (v6 : Int32) (aq3 : Nat) (ac3 : ClassId) (w3 : Nat → Int32) (x7 : Int32) (kc : Nat) (ks : Nat), kc ≤ 600130 → ks ≤ 7301080 → m_law_S78 S v5 v6 = some x7 → QV G X 20 Q 98 [(0, .ref b), (1, .ref (gad G 0)), (2, .int v2), (3, .ref aq3), (4, .int v4), (5, .int v5), (6, .int v6), (7, .int x7)] [] (lw G S [(aq3, .inl (ac3, 4, .inl w3))]) (lt G [(ac3, .int)]) kc ks → QV G X 20 Q 78 [(0, .ref b), (1, .ref (gad G 0)), (2, .int v2), (3, .ref aq3), (4, .int v4), (5, .int v5), (6, .int v6)] [] (lw G S [(aq3, .inl (ac3, 4, .inl w3))]) (lt G [(ac3, .int)]) kc ks := by
  intro S v2 v4 v5 v6 aq3 ac3 w3 x7 kc ks hkc hks hm kk
  unfold m_law_S78 at hm
  refine v_iload (pc := 78) C dL_law_78 6 rfl ?_
  refine v_if_ne (pc := 80) (tgt := 87) C dL_law_80 (by decide) (fun c1 => ?_) (fun c1 => ?_)
  · replace hm := hm_f c1 hm
    refine v_iload (pc := 87) C dL_law_87 5 rfl ?_
    refine v_iconst (pc := 89) (v := (3 : Int32)) C dL_law_89 (by decide) ?_
    refine v_ishr (pc := 90) C dL_law_90 ?_
    refine v_iload (pc := 91) C dL_law_91 6 rfl ?_
    obtain ⟨r1, h1, hm⟩ := o1_some hm
    refine v_callS (pc := 93) (As := [.int (v5 >>> ((3 : Int32) &&& 31)), .int v6]) (rest := []) C (by omega) (by omega) (c_Law_below hi h1) tw_104 tw_105 tw_101 tw_106 (nA := 2) (by decide +kernel) rfl (by decide) (Nat.le_of_ble_eq_true rfl) rfl dL_law_93 ?_
    refine v_istore (pc := 96) (lv' := [(7, .int r1), (0, .ref b), (1, .ref (gad G 0)), (2, .int v2), (3, .ref aq3), (4, .int v4), (5, .int v5), (6, .int v6)]) C dL_law_96 (by decide) rfl ?_
    simp only [Option.some.injEq, Prod.mk.injEq] at hm
    subst hm
    refine v_lv (lv' := [(0, .ref b), (1, .ref (gad G 0)), (2, .int v2), (3, .ref aq3), (4, .int v4), (5, .int v5), (6, .int v6), (7, .int r1)]) [1, 2, 3, 4, 5, 6, 7, 0] rfl ?_
    exact kk
  · replace hm := hm_t c1 hm
    refine v_iconst (pc := 83) (v := (0 : Int32)) C dL_law_83 (by decide) ?_
    refine v_goto (pc := 84) (tgt := 96) C dL_law_84 (by decide) ?_
    refine v_istore (pc := 96) (lv' := [(7, .int (0 : Int32)), (0, .ref b), (1, .ref (gad G 0)), (2, .int v2), (3, .ref aq3), (4, .int v4), (5, .int v5), (6, .int v6)]) C dL_law_96 (by decide) rfl ?_
    simp only [Option.some.injEq, Prod.mk.injEq] at hm
    subst hm
    refine v_lv (lv' := [(0, .ref b), (1, .ref (gad G 0)), (2, .int v2), (3, .ref aq3), (4, .int v4), (5, .int v5), (6, .int v6), (7, .int (0 : Int32))]) [1, 2, 3, 4, 5, 6, 7, 0] rfl ?_
    exact kk
set_option maxRecDepth 100000 in
theorem w_law_S98 {G : Gx} (hi : qinj (gad G)) {X : Cx} {b L : Nat} {xs : Nat → Int32} (C : VC X cL_law 20 RL 12 436 600130 7301080) (CX : LX X b L xs) {Q : State → Prop} : ∀ (S : St) (v2 : Int32) (v4 : Int32) (v5 : Int32) (v6 : Int32) (v7 : Int32) (aq3 : Nat) (ac3 : ClassId) (w3 : Nat → Int32) (x8 : Int32) (kc : Nat) (ks : Nat), kc ≤ 600130 → ks ≤ 7301080 → m_law_S98 S v5 v6 = some x8 → QV G X 20 Q 118 [(0, .ref b), (1, .ref (gad G 0)), (2, .int v2), (3, .ref aq3), (4, .int v4), (5, .int v5), (6, .int v6), (7, .int v7), (8, .int x8)] [] (lw G S [(aq3, .inl (ac3, 4, .inl w3))]) (lt G [(ac3, .int)]) kc ks → QV G X 20 Q 98 [(0, .ref b), (1, .ref (gad G 0)), (2, .int v2), (3, .ref aq3), (4, .int v4), (5, .int v5), (6, .int v6), (7, .int v7)] [] (lw G S [(aq3, .inl (ac3, 4, .inl w3))]) (lt G [(ac3, .int)]) kc ks := by
  intro S v2 v4 v5 v6 v7 aq3 ac3 w3 x8 kc ks hkc hks hm kk
  unfold m_law_S98 at hm
  refine v_iload (pc := 98) C dL_law_98 6 rfl ?_
  refine v_if_ne (pc := 100) (tgt := 107) C dL_law_100 (by decide) (fun c1 => ?_) (fun c1 => ?_)
  · replace hm := hm_f c1 hm
    refine v_iload (pc := 107) C dL_law_107 5 rfl ?_
    refine v_iconst (pc := 109) (v := (5 : Int32)) C dL_law_109 (by decide) ?_
    refine v_ishr (pc := 110) C dL_law_110 ?_
    refine v_iload (pc := 111) C dL_law_111 6 rfl ?_
    obtain ⟨r1, h1, hm⟩ := o1_some hm
    refine v_callS (pc := 113) (As := [.int (v5 >>> ((5 : Int32) &&& 31)), .int v6]) (rest := []) C (by omega) (by omega) (c_Law_below hi h1) tw_104 tw_105 tw_101 tw_106 (nA := 2) (by decide +kernel) rfl (by decide) (Nat.le_of_ble_eq_true rfl) rfl dL_law_113 ?_
    refine v_istore (pc := 116) (lv' := [(8, .int r1), (0, .ref b), (1, .ref (gad G 0)), (2, .int v2), (3, .ref aq3), (4, .int v4), (5, .int v5), (6, .int v6), (7, .int v7)]) C dL_law_116 (by decide) rfl ?_
    simp only [Option.some.injEq, Prod.mk.injEq] at hm
    subst hm
    refine v_lv (lv' := [(0, .ref b), (1, .ref (gad G 0)), (2, .int v2), (3, .ref aq3), (4, .int v4), (5, .int v5), (6, .int v6), (7, .int v7), (8, .int r1)]) [1, 2, 3, 4, 5, 6, 7, 8, 0] rfl ?_
    exact kk
  · replace hm := hm_t c1 hm
    refine v_iconst (pc := 103) (v := (0 : Int32)) C dL_law_103 (by decide) ?_
    refine v_goto (pc := 104) (tgt := 116) C dL_law_104 (by decide) ?_
    refine v_istore (pc := 116) (lv' := [(8, .int (0 : Int32)), (0, .ref b), (1, .ref (gad G 0)), (2, .int v2), (3, .ref aq3), (4, .int v4), (5, .int v5), (6, .int v6), (7, .int v7)]) C dL_law_116 (by decide) rfl ?_
    simp only [Option.some.injEq, Prod.mk.injEq] at hm
    subst hm
    refine v_lv (lv' := [(0, .ref b), (1, .ref (gad G 0)), (2, .int v2), (3, .ref aq3), (4, .int v4), (5, .int v5), (6, .int v6), (7, .int v7), (8, .int (0 : Int32))]) [1, 2, 3, 4, 5, 6, 7, 8, 0] rfl ?_
    exact kk
set_option maxRecDepth 100000 in
theorem w_law_S127 {G : Gx} (hi : qinj (gad G)) {X : Cx} {b L : Nat} {xs : Nat → Int32} (C : VC X cL_law 20 RL 12 436 600130 7301080) (CX : LX X b L xs) {Q : State → Prop} : ∀ (S : St) (v2 : Int32) (v4 : Int32) (v5 : Int32) (v6 : Int32) (v7 : Int32) (v8 : Int32) (v9 : Int32) (aq3 : Nat) (ac3 : ClassId) (w3 : Nat → Int32) (zS : St) (kc : Nat) (ks : Nat), kc ≤ 600130 → ks ≤ 7301080 → m_law_S127 S v5 v6 v7 v8 v9 = some zS → QV G X 20 Q 264 [(0, .ref b), (1, .ref (gad G 0)), (2, .int v2), (3, .ref aq3), (4, .int v4), (5, .int v5)] [] (lw G zS [(aq3, .inl (ac3, 4, .inl w3))]) (lt G [(ac3, .int)]) kc ks → QV G X 20 Q 127 [(0, .ref b), (1, .ref (gad G 0)), (2, .int v2), (3, .ref aq3), (4, .int v4), (5, .int v5), (6, .int v6), (7, .int v7), (8, .int v8), (9, .int v9)] [] (lw G S [(aq3, .inl (ac3, 4, .inl w3))]) (lt G [(ac3, .int)]) kc ks := by
  intro S v2 v4 v5 v6 v7 v8 v9 aq3 ac3 w3 zS kc ks hkc hks hm kk
  unfold m_law_S127 at hm
  refine v_iload (pc := 127) C dL_law_127 9 rfl ?_
  refine v_iconst (pc := 129) (v := (4 : Int32)) C dL_law_129 (by decide) ?_
  refine v_icmp_lt (pc := 130) (tgt := 138) C dL_law_130 (by decide) (fun c1 => ?_) (fun c1 => ?_)
  · replace hm := hm_t c1 hm
    refine v_aload_n (pc := 138) C dL_law_138 rfl 1 rfl ?_
    refine v_iload (pc := 139) C dL_law_139 5 rfl ?_
    refine v_iconst (pc := 141) (v := (2 : Int32)) C dL_law_141 (by decide) ?_
    refine v_ishr (pc := 142) C dL_law_142 ?_
    refine v_iconst (pc := 143) (v := (4 : Int32)) C dL_law_143 (by decide) ?_
    obtain ⟨r1, h1, hm⟩ := o1_some hm
    refine v_callS (pc := 144) (As := [.int (v5 >>> ((2 : Int32) &&& 31)), .int (4 : Int32)]) (rest := [.ref (gad G 0)]) C (by omega) (by omega) (c_Law_below hi h1) tw_104 tw_105 tw_101 tw_106 (nA := 2) (by decide +kernel) rfl (by decide) (Nat.le_of_ble_eq_true rfl) rfl dL_law_144 ?_
    refine v_iload (pc := 147) C dL_law_147 5 rfl ?_
    refine v_iconst (pc := 149) (v := (4 : Int32)) C dL_law_149 (by decide) ?_
    refine v_ishr (pc := 150) C dL_law_150 ?_
    refine v_bipush (pc := 151) (v := (6 : Int32)) C dL_law_151 (by decide) ?_
    obtain ⟨r2, h2, hm⟩ := o1_some hm
    refine v_callS (pc := 153) (As := [.int (v5 >>> ((4 : Int32) &&& 31)), .int (6 : Int32)]) (rest := [.int r1, .ref (gad G 0)]) C (by omega) (by omega) (c_Law_below hi h2) tw_104 tw_105 tw_101 tw_106 (nA := 2) (by decide +kernel) rfl (by decide) (Nat.le_of_ble_eq_true rfl) rfl dL_law_153 ?_
    obtain ⟨r3, S1, h3, hm⟩ := ob_some hm
    refine v_callV (pc := 156) (k := 0) (As := [.int r1, .int r2]) (rest := []) (T := TX8) C (by omega) (by omega) (c_Te_make hi h3) (by decide) (ce_0 _ _ _) (ci := 6) rfl tw_193 tw_194 tw_195 tw_2 tw_196 (nA := 2) (by decide +kernel) rfl (by decide) (Nat.le_of_ble_eq_true rfl) rfl dL_law_156 ?_
    refine v_iload (pc := 159) C dL_law_159 6 rfl ?_
    refine v_icmp_eq (pc := 161) (tgt := 264) C dL_law_161 (by decide) (fun c2 => ?_) (fun c2 => ?_)
    · replace hm := hm_t c2 hm
      simp only [Option.some.injEq, Prod.mk.injEq] at hm
      subst hm
      refine v_lv (lv' := [(0, .ref b), (1, .ref (gad G 0)), (2, .int v2), (3, .ref aq3), (4, .int v4), (5, .int v5)]) [0, 1, 2, 3, 4, 5] rfl ?_
      exact kk
    · replace hm := hm_f c2 hm
      cases hm
  · replace hm := hm_f c1 hm
    refine v_iload (pc := 133) C dL_law_133 6 rfl ?_
    refine v_if_ne (pc := 135) (tgt := 166) C dL_law_135 (by decide) (fun c3 => ?_) (fun c3 => ?_)
    · replace hm := hm_f c3 hm
      refine v_iload (pc := 166) C dL_law_166 9 rfl ?_
      refine v_iconst (pc := 168) (v := (4 : Int32)) C dL_law_168 (by decide) ?_
      refine v_icmp_ne (pc := 169) (tgt := 190) C dL_law_169 (by decide) (fun c4 => ?_) (fun c4 => ?_)
      · replace hm := hm_f c4 hm
        refine v_aload_n (pc := 190) C dL_law_190 rfl 1 rfl ?_
        refine v_iload (pc := 191) C dL_law_191 7 rfl ?_
        refine v_iconst (pc := 193) (v := (1 : Int32)) C dL_law_193 (by decide) ?_
        obtain ⟨r4, h4, hm⟩ := o1_some hm
        refine v_callV (pc := 194) (k := 0) (As := [.int v7, .int (1 : Int32)]) (rest := []) (T := TX8) C (by omega) (by omega) (c_Te_ofThing hi h4) (by decide) (ce_0 _ _ _) (ci := 6) rfl tw_658 tw_659 tw_660 tw_2 tw_661 (nA := 2) (by decide +kernel) rfl (by decide) (Nat.le_of_ble_eq_true rfl) rfl dL_law_194 ?_
        refine v_iconst (pc := 197) (v := (1 : Int32)) C dL_law_197 (by decide) ?_
        refine v_icmp_ne (pc := 198) (tgt := 264) C dL_law_198 (by decide) (fun c5 => ?_) (fun c5 => ?_)
        · replace hm := hm_f c5 hm
          simp only [Option.some.injEq, Prod.mk.injEq] at hm
          subst hm
          refine v_lv (lv' := [(0, .ref b), (1, .ref (gad G 0)), (2, .int v2), (3, .ref aq3), (4, .int v4), (5, .int v5)]) [0, 1, 2, 3, 4, 5] rfl ?_
          exact kk
        · replace hm := hm_t c5 hm
          refine v_aload_n (pc := 201) C dL_law_201 rfl 1 rfl ?_
          refine v_iload (pc := 202) C dL_law_202 8 rfl ?_
          refine v_iconst (pc := 204) (v := (1 : Int32)) C dL_law_204 (by decide) ?_
          obtain ⟨r5, h5, hm⟩ := o1_some hm
          refine v_callV (pc := 205) (k := 0) (As := [.int v8, .int (1 : Int32)]) (rest := []) (T := TX8) C (by omega) (by omega) (c_Te_ofThing hi h5) (by decide) (ce_0 _ _ _) (ci := 6) rfl tw_658 tw_659 tw_660 tw_2 tw_661 (nA := 2) (by decide +kernel) rfl (by decide) (Nat.le_of_ble_eq_true rfl) rfl dL_law_205 ?_
          refine v_iconst (pc := 208) (v := (1 : Int32)) C dL_law_208 (by decide) ?_
          refine v_icmp_ne (pc := 209) (tgt := 264) C dL_law_209 (by decide) (fun c6 => ?_) (fun c6 => ?_)
          · replace hm := hm_f c6 hm
            simp only [Option.some.injEq, Prod.mk.injEq] at hm
            subst hm
            refine v_lv (lv' := [(0, .ref b), (1, .ref (gad G 0)), (2, .int v2), (3, .ref aq3), (4, .int v4), (5, .int v5)]) [0, 1, 2, 3, 4, 5] rfl ?_
            exact kk
          · replace hm := hm_t c6 hm
            refine v_aload_n (pc := 212) C dL_law_212 rfl 1 rfl ?_
            refine v_iload (pc := 213) C dL_law_213 7 rfl ?_
            refine v_iconst (pc := 215) (v := (0 : Int32)) C dL_law_215 (by decide) ?_
            obtain ⟨r6, h6, hm⟩ := o1_some hm
            refine v_callV (pc := 216) (k := 0) (As := [.int v7, .int (0 : Int32)]) (rest := []) (T := TX8) C (by omega) (by omega) (c_Te_ofThing hi h6) (by decide) (ce_0 _ _ _) (ci := 6) rfl tw_658 tw_659 tw_660 tw_2 tw_661 (nA := 2) (by decide +kernel) rfl (by decide) (Nat.le_of_ble_eq_true rfl) rfl dL_law_216 ?_
            refine v_if_le (pc := 219) (tgt := 264) C dL_law_219 (by decide) (fun c7 => ?_) (fun c7 => ?_)
            · replace hm := hm_t c7 hm
              simp only [Option.some.injEq, Prod.mk.injEq] at hm
              subst hm
              refine v_lv (lv' := [(0, .ref b), (1, .ref (gad G 0)), (2, .int v2), (3, .ref aq3), (4, .int v4), (5, .int v5)]) [0, 1, 2, 3, 4, 5] rfl ?_
              exact kk
            · replace hm := hm_f c7 hm
              refine v_iload (pc := 222) C dL_law_222 5 rfl ?_
              refine v_iconst (pc := 224) (v := (2 : Int32)) C dL_law_224 (by decide) ?_
              refine v_ishr (pc := 225) C dL_law_225 ?_
              refine v_aload_n (pc := 226) C dL_law_226 rfl 1 rfl ?_
              refine v_iload (pc := 227) C dL_law_227 7 rfl ?_
              refine v_iconst (pc := 229) (v := (0 : Int32)) C dL_law_229 (by decide) ?_
              obtain ⟨r7, h7, hm⟩ := o1_some hm
              refine v_callV (pc := 230) (k := 0) (As := [.int v7, .int (0 : Int32)]) (rest := [.int (v5 >>> ((2 : Int32) &&& 31))]) (T := TX8) C (by omega) (by omega) (c_Te_ofThing hi h7) (by decide) (ce_0 _ _ _) (ci := 6) rfl tw_658 tw_659 tw_660 tw_2 tw_661 (nA := 2) (by decide +kernel) rfl (by decide) (Nat.le_of_ble_eq_true rfl) rfl dL_law_230 ?_
              obtain ⟨r8, h8, hm⟩ := o1_some hm
              refine v_callS (pc := 233) (As := [.int (v5 >>> ((2 : Int32) &&& 31)), .int r7]) (rest := []) C (by omega) (by omega) (c_Law_below hi h8) tw_104 tw_105 tw_101 tw_106 (nA := 2) (by decide +kernel) rfl (by decide) (Nat.le_of_ble_eq_true rfl) rfl dL_law_233 ?_
              refine v_istore (pc := 236) (lv' := [(10, .int r8), (0, .ref b), (1, .ref (gad G 0)), (2, .int v2), (3, .ref aq3), (4, .int v4), (5, .int v5), (6, .int v6), (7, .int v7), (8, .int v8), (9, .int v9)]) C dL_law_236 (by decide) rfl ?_
              refine v_aload_n (pc := 238) C dL_law_238 rfl 2 rfl ?_
              refine v_iload (pc := 239) C dL_law_239 8 rfl ?_
              refine v_iload (pc := 241) C dL_law_241 0 rfl ?_
              refine v_iload (pc := 243) C dL_law_243 9 rfl ?_
              obtain ⟨r9, S2, h9, hm⟩ := ob_some hm
              refine v_callV (pc := 245) (k := 0) (As := [.int v7, .int r8, .int v8]) (rest := []) (T := TX8) C (by omega) (by omega) (c_Te_set hi h9) (by decide) (ce_0 _ _ _) (ci := 6) rfl tw_675 tw_676 tw_677 tw_2 tw_678 (nA := 3) (by decide +kernel) rfl (by decide) (Nat.le_of_ble_eq_true rfl) rfl dL_law_245 ?_
              refine v_pop (pc := 248) C dL_law_248 rfl ?_
              refine v_aload_n (pc := 249) C dL_law_249 rfl 2 rfl ?_
              refine v_iload (pc := 250) C dL_law_250 8 rfl ?_
              refine v_iload (pc := 252) C dL_law_252 0 rfl ?_
              obtain ⟨r10, h10, hm⟩ := o1_some hm
              refine v_callV (pc := 254) (k := 0) (As := [.int v7, .int r8]) (rest := []) (T := TX8) C (by omega) (by omega) (c_Te_named hi h10) (by decide) (ce_0 _ _ _) (ci := 6) rfl tw_689 tw_690 tw_691 tw_2 tw_692 (nA := 2) (by decide +kernel) rfl (by decide) (Nat.le_of_ble_eq_true rfl) rfl dL_law_254 ?_
              refine v_iload (pc := 257) C dL_law_257 9 rfl ?_
              refine v_icmp_eq (pc := 259) (tgt := 264) C dL_law_259 (by decide) (fun c8 => ?_) (fun c8 => ?_)
              · replace hm := hm_t c8 hm
                simp only [Option.some.injEq, Prod.mk.injEq] at hm
                subst hm
                refine v_lv (lv' := [(0, .ref b), (1, .ref (gad G 0)), (2, .int v2), (3, .ref aq3), (4, .int v4), (5, .int v5)]) [1, 2, 3, 4, 5, 6] rfl ?_
                exact kk
              · replace hm := hm_f c8 hm
                cases hm
      · replace hm := hm_t c4 hm
        refine v_aload_n (pc := 172) C dL_law_172 rfl 1 rfl ?_
        refine v_iload (pc := 173) C dL_law_173 5 rfl ?_
        refine v_iconst (pc := 175) (v := (4 : Int32)) C dL_law_175 (by decide) ?_
        refine v_ishr (pc := 176) C dL_law_176 ?_
        refine v_bipush (pc := 177) (v := (6 : Int32)) C dL_law_177 (by decide) ?_
        obtain ⟨r11, h11, hm⟩ := o1_some hm
        refine v_callS (pc := 179) (As := [.int (v5 >>> ((4 : Int32) &&& 31)), .int (6 : Int32)]) (rest := [.ref (gad G 0)]) C (by omega) (by omega) (c_Law_below hi h11) tw_104 tw_105 tw_101 tw_106 (nA := 2) (by decide +kernel) rfl (by decide) (Nat.le_of_ble_eq_true rfl) rfl dL_law_179 ?_
        refine v_iconst (pc := 182) (v := (-1 : Int32)) C dL_law_182 (by decide) ?_
        obtain ⟨r12, S3, h12, hm⟩ := ob_some hm
        refine v_callV (pc := 183) (k := 0) (As := [.int r11, .int (-1 : Int32)]) (rest := []) (T := TX8) C (by omega) (by omega) (c_Te_root hi h12) (by decide) (ce_0 _ _ _) (ci := 6) rfl tw_649 tw_650 tw_651 tw_2 tw_652 (nA := 2) (by decide +kernel) rfl (by decide) (Nat.le_of_ble_eq_true rfl) rfl dL_law_183 ?_
        refine v_pop (pc := 186) C dL_law_186 rfl ?_
        refine v_goto (pc := 187) (tgt := 264) C dL_law_187 (by decide) ?_
        simp only [Option.some.injEq, Prod.mk.injEq] at hm
        subst hm
        refine v_lv (lv' := [(0, .ref b), (1, .ref (gad G 0)), (2, .int v2), (3, .ref aq3), (4, .int v4), (5, .int v5)]) [0, 1, 2, 3, 4, 5] rfl ?_
        exact kk
    · replace hm := hm_t c3 hm
      refine v_aload_n (pc := 138) C dL_law_138 rfl 1 rfl ?_
      refine v_iload (pc := 139) C dL_law_139 5 rfl ?_
      refine v_iconst (pc := 141) (v := (2 : Int32)) C dL_law_141 (by decide) ?_
      refine v_ishr (pc := 142) C dL_law_142 ?_
      refine v_iconst (pc := 143) (v := (4 : Int32)) C dL_law_143 (by decide) ?_
      obtain ⟨r13, h13, hm⟩ := o1_some hm
      refine v_callS (pc := 144) (As := [.int (v5 >>> ((2 : Int32) &&& 31)), .int (4 : Int32)]) (rest := [.ref (gad G 0)]) C (by omega) (by omega) (c_Law_below hi h13) tw_104 tw_105 tw_101 tw_106 (nA := 2) (by decide +kernel) rfl (by decide) (Nat.le_of_ble_eq_true rfl) rfl dL_law_144 ?_
      refine v_iload (pc := 147) C dL_law_147 5 rfl ?_
      refine v_iconst (pc := 149) (v := (4 : Int32)) C dL_law_149 (by decide) ?_
      refine v_ishr (pc := 150) C dL_law_150 ?_
      refine v_bipush (pc := 151) (v := (6 : Int32)) C dL_law_151 (by decide) ?_
      obtain ⟨r14, h14, hm⟩ := o1_some hm
      refine v_callS (pc := 153) (As := [.int (v5 >>> ((4 : Int32) &&& 31)), .int (6 : Int32)]) (rest := [.int r13, .ref (gad G 0)]) C (by omega) (by omega) (c_Law_below hi h14) tw_104 tw_105 tw_101 tw_106 (nA := 2) (by decide +kernel) rfl (by decide) (Nat.le_of_ble_eq_true rfl) rfl dL_law_153 ?_
      obtain ⟨r15, S4, h15, hm⟩ := ob_some hm
      refine v_callV (pc := 156) (k := 0) (As := [.int r13, .int r14]) (rest := []) (T := TX8) C (by omega) (by omega) (c_Te_make hi h15) (by decide) (ce_0 _ _ _) (ci := 6) rfl tw_193 tw_194 tw_195 tw_2 tw_196 (nA := 2) (by decide +kernel) rfl (by decide) (Nat.le_of_ble_eq_true rfl) rfl dL_law_156 ?_
      refine v_iload (pc := 159) C dL_law_159 6 rfl ?_
      refine v_icmp_eq (pc := 161) (tgt := 264) C dL_law_161 (by decide) (fun c9 => ?_) (fun c9 => ?_)
      · replace hm := hm_t c9 hm
        simp only [Option.some.injEq, Prod.mk.injEq] at hm
        subst hm
        refine v_lv (lv' := [(0, .ref b), (1, .ref (gad G 0)), (2, .int v2), (3, .ref aq3), (4, .int v4), (5, .int v5)]) [0, 1, 2, 3, 4, 5] rfl ?_
        exact kk
      · replace hm := hm_f c9 hm
        cases hm
set_option maxRecDepth 100000 in
theorem w_law_S264 {G : Gx} (hi : qinj (gad G)) {X : Cx} {b L : Nat} {xs : Nat → Int32} (C : VC X cL_law 20 RL 12 436 600130 7301080) (CX : LX X b L xs) {Q : State → Prop} : ∀ (S : St) (v2 : Int32) (v4 : Int32) (v5 : Int32) (aq3 : Nat) (ac3 : ClassId) (w3 : Nat → Int32) (zS : St) (kc : Nat) (ks : Nat), kc ≤ 600130 → ks ≤ 7301080 → m_law_S264 S v5 = some zS → QV G X 20 Q 292 [(0, .ref b), (1, .ref (gad G 0)), (2, .int v2), (3, .ref aq3), (4, .int v4), (5, .int v5)] [] (lw G zS [(aq3, .inl (ac3, 4, .inl w3))]) (lt G [(ac3, .int)]) kc ks → QV G X 20 Q 264 [(0, .ref b), (1, .ref (gad G 0)), (2, .int v2), (3, .ref aq3), (4, .int v4), (5, .int v5)] [] (lw G S [(aq3, .inl (ac3, 4, .inl w3))]) (lt G [(ac3, .int)]) kc ks := by
  intro S v2 v4 v5 aq3 ac3 w3 zS kc ks hkc hks hm kk
  unfold m_law_S264 at hm
  refine v_iload (pc := 264) C dL_law_264 5 rfl ?_
  refine v_bipush (pc := 266) (v := (6 : Int32)) C dL_law_266 (by decide) ?_
  refine v_ishr (pc := 268) C dL_law_268 ?_
  refine v_bipush (pc := 269) (v := (6 : Int32)) C dL_law_269 (by decide) ?_
  obtain ⟨r1, h1, hm⟩ := o1_some hm
  refine v_callS (pc := 271) (As := [.int (v5 >>> ((6 : Int32) &&& 31)), .int (6 : Int32)]) (rest := []) C (by omega) (by omega) (c_Law_below hi h1) tw_104 tw_105 tw_101 tw_106 (nA := 2) (by decide +kernel) rfl (by decide) (Nat.le_of_ble_eq_true rfl) rfl dL_law_271 ?_
  refine v_if_ne (pc := 274) (tgt := 292) C dL_law_274 (by decide) (fun c1 => ?_) (fun c1 => ?_)
  · replace hm := hm_f c1 hm
    simp only [Option.some.injEq, Prod.mk.injEq] at hm
    subst hm
    refine v_lv (lv' := [(0, .ref b), (1, .ref (gad G 0)), (2, .int v2), (3, .ref aq3), (4, .int v4), (5, .int v5)]) [0, 1, 2, 3, 4, 5] rfl ?_
    exact kk
  · replace hm := hm_t c1 hm
    refine v_aload_n (pc := 277) C dL_law_277 rfl 1 rfl ?_
    refine v_iconst (pc := 278) (v := (1 : Int32)) C dL_law_278 (by decide) ?_
    refine v_iload (pc := 279) C dL_law_279 5 rfl ?_
    refine v_iconst (pc := 281) (v := (2 : Int32)) C dL_law_281 (by decide) ?_
    refine v_ishr (pc := 282) C dL_law_282 ?_
    refine v_iconst (pc := 283) (v := (3 : Int32)) C dL_law_283 (by decide) ?_
    obtain ⟨r2, h2, hm⟩ := o1_some hm
    refine v_callS (pc := 284) (As := [.int (v5 >>> ((2 : Int32) &&& 31)), .int (3 : Int32)]) (rest := [.int (1 : Int32), .ref (gad G 0)]) C (by omega) (by omega) (c_Law_below hi h2) tw_104 tw_105 tw_101 tw_106 (nA := 2) (by decide +kernel) rfl (by decide) (Nat.le_of_ble_eq_true rfl) rfl dL_law_284 ?_
    refine v_iadd (pc := 287) C dL_law_287 ?_
    obtain ⟨r3, S1, h3, hm⟩ := ob_some hm
    refine v_callV (pc := 288) (k := 0) (As := [.int ((1 : Int32) + r2)]) (rest := []) (T := TX8) C (by omega) (by omega) (c_Te_steps hi h3) (by decide) (ce_0 _ _ _) (ci := 6) rfl tw_693 tw_694 tw_695 tw_2 tw_696 (nA := 1) (by decide +kernel) rfl (by decide) (Nat.le_of_ble_eq_true rfl) rfl dL_law_288 ?_
    refine v_pop (pc := 291) C dL_law_291 rfl ?_
    simp only [Option.some.injEq, Prod.mk.injEq] at hm
    subst hm
    refine v_lv (lv' := [(0, .ref b), (1, .ref (gad G 0)), (2, .int v2), (3, .ref aq3), (4, .int v4), (5, .int v5)]) [0, 1, 2, 3, 4, 5] rfl ?_
    exact kk
set_option maxRecDepth 100000 in
theorem w_law_S307 {G : Gx} (hi : qinj (gad G)) {X : Cx} {b L : Nat} {xs : Nat → Int32} (C : VC X cL_law 20 RL 12 436 600130 7301080) (CX : LX X b L xs) {Q : State → Prop} : ∀ (S : St) (v2 : Int32) (v4 : Int32) (v5 : Int32) (v6 : Int32) (v10 : Int32) (aq3 : Nat) (ac3 : ClassId) (w3 : Nat → Int32) (x11 : Int32) (zS : St) (kc : Nat) (ks : Nat), kc ≤ 600130 → ks ≤ 7301080 → m_law_S307 S v10 = some (x11, zS) → QV G X 20 Q 326 [(0, .ref b), (1, .ref (gad G 0)), (2, .int v2), (3, .ref aq3), (4, .int v4), (5, .int v5), (6, .int v6), (10, .int v10), (11, .int x11)] [] (lw G zS [(aq3, .inl (ac3, 4, .inl w3))]) (lt G [(ac3, .int)]) kc ks → QV G X 20 Q 307 [(0, .ref b), (1, .ref (gad G 0)), (2, .int v2), (3, .ref aq3), (4, .int v4), (5, .int v5), (6, .int v6), (10, .int v10)] [] (lw G S [(aq3, .inl (ac3, 4, .inl w3))]) (lt G [(ac3, .int)]) kc ks := by
  intro S v2 v4 v5 v6 v10 aq3 ac3 w3 x11 zS kc ks hkc hks hm kk
  unfold m_law_S307 at hm
  refine v_aload_n (pc := 307) C dL_law_307 rfl 1 rfl ?_
  refine v_iload (pc := 308) C dL_law_308 7 rfl ?_
  refine v_bipush (pc := 310) (v := (7 : Int32)) C dL_law_310 (by decide) ?_
  obtain ⟨r1, S1, h1, hm⟩ := ob_some hm
  refine v_callV (pc := 312) (k := 0) (As := [.int v10, .int (7 : Int32)]) (rest := []) (T := TX8) C (by omega) (by omega) (c_Te_told hi h1) (by decide) (ce_0 _ _ _) (ci := 6) rfl tw_709 tw_710 tw_711 tw_2 tw_712 (nA := 2) (by decide +kernel) rfl (by decide) (Nat.le_of_ble_eq_true rfl) rfl dL_law_312 ?_
  refine v_iconst (pc := 315) (v := (1 : Int32)) C dL_law_315 (by decide) ?_
  refine v_icmp_ne (pc := 316) (tgt := 323) C dL_law_316 (by decide) (fun c1 => ?_) (fun c1 => ?_)
  · replace hm := hm_f c1 hm
    refine v_iconst (pc := 323) (v := (0 : Int32)) C dL_law_323 (by decide) ?_
    refine v_istore (pc := 324) (lv' := [(11, .int (0 : Int32)), (0, .ref b), (1, .ref (gad G 0)), (2, .int v2), (3, .ref aq3), (4, .int v4), (5, .int v5), (6, .int v6), (10, .int v10)]) C dL_law_324 (by decide) rfl ?_
    simp only [Option.some.injEq, Prod.mk.injEq] at hm
    obtain ⟨rfl, rfl⟩ := hm
    refine v_lv (lv' := [(0, .ref b), (1, .ref (gad G 0)), (2, .int v2), (3, .ref aq3), (4, .int v4), (5, .int v5), (6, .int v6), (10, .int v10), (11, .int (0 : Int32))]) [1, 2, 3, 4, 5, 6, 7, 8, 0] rfl ?_
    exact kk
  · replace hm := hm_t c1 hm
    refine v_iconst (pc := 319) (v := (1 : Int32)) C dL_law_319 (by decide) ?_
    refine v_goto (pc := 320) (tgt := 324) C dL_law_320 (by decide) ?_
    refine v_istore (pc := 324) (lv' := [(11, .int (1 : Int32)), (0, .ref b), (1, .ref (gad G 0)), (2, .int v2), (3, .ref aq3), (4, .int v4), (5, .int v5), (6, .int v6), (10, .int v10)]) C dL_law_324 (by decide) rfl ?_
    simp only [Option.some.injEq, Prod.mk.injEq] at hm
    obtain ⟨rfl, rfl⟩ := hm
    refine v_lv (lv' := [(0, .ref b), (1, .ref (gad G 0)), (2, .int v2), (3, .ref aq3), (4, .int v4), (5, .int v5), (6, .int v6), (10, .int v10), (11, .int (1 : Int32))]) [1, 2, 3, 4, 5, 6, 7, 8, 0] rfl ?_
    exact kk
set_option maxRecDepth 100000 in
theorem w_law_S360 {G : Gx} (hi : qinj (gad G)) {X : Cx} {b L : Nat} {xs : Nat → Int32} (C : VC X cL_law 20 RL 12 436 600130 7301080) (CX : LX X b L xs) {Q : State → Prop} : ∀ (S : St) (v2 : Int32) (v4 : Int32) (v5 : Int32) (v6 : Int32) (v10 : Int32) (v11 : Int32) (v13 : Int32) (v14 : Int32) (v15 : Int32) (v16 : Int32) (v17 : Int32) (aq3 : Nat) (ac3 : ClassId) (w3 : Nat → Int32) (aq12 : Nat) (ac12 : ClassId) (w12 : Nat → Int32) (x18 : Int32) (kc : Nat) (ks : Nat), kc ≤ 600130 → ks ≤ 7301080 → m_law_S360 S v16 = some x18 → QV G X 20 Q 378 [(0, .ref b), (1, .ref (gad G 0)), (2, .int v2), (3, .ref aq3), (4, .int v4), (5, .int v5), (6, .int v6), (10, .int v10), (11, .int v11), (12, .ref aq12), (13, .int v13), (14, .int v14), (15, .int v15), (16, .int v16), (17, .int v17), (18, .int x18)] [] (lw G S [(aq3, .inl (ac3, 4, .inl w3)), (aq12, .inl (ac12, v2.toNatClampNeg, .inl w12))]) (lt G [(ac3, .int), (ac12, .boolean)]) kc ks → QV G X 20 Q 360 [(0, .ref b), (1, .ref (gad G 0)), (2, .int v2), (3, .ref aq3), (4, .int v4), (5, .int v5), (6, .int v6), (10, .int v10), (11, .int v11), (12, .ref aq12), (13, .int v13), (14, .int v14), (15, .int v15), (16, .int v16), (17, .int v17)] [] (lw G S [(aq3, .inl (ac3, 4, .inl w3)), (aq12, .inl (ac12, v2.toNatClampNeg, .inl w12))]) (lt G [(ac3, .int), (ac12, .boolean)]) kc ks := by
  intro S v2 v4 v5 v6 v10 v11 v13 v14 v15 v16 v17 aq3 ac3 w3 aq12 ac12 w12 x18 kc ks hkc hks hm kk
  unfold m_law_S360 at hm
  refine v_aload_n (pc := 360) C dL_law_360 rfl 1 rfl ?_
  refine v_iload (pc := 361) C dL_law_361 13 rfl ?_
  refine v_iconst (pc := 363) (v := (1 : Int32)) C dL_law_363 (by decide) ?_
  obtain ⟨r1, h1, hm⟩ := o1_some hm
  refine v_callV (pc := 364) (k := 0) (As := [.int v16, .int (1 : Int32)]) (rest := []) (T := TX8) C (by omega) (by omega) (c_Te_ofThing hi h1) (by decide) (ce_0 _ _ _) (ci := 6) rfl tw_658 tw_659 tw_660 tw_2 tw_661 (nA := 2) (by decide +kernel) rfl (by decide) (Nat.le_of_ble_eq_true rfl) rfl dL_law_364 ?_
  refine v_iconst (pc := 367) (v := (1 : Int32)) C dL_law_367 (by decide) ?_
  refine v_icmp_ne (pc := 368) (tgt := 375) C dL_law_368 (by decide) (fun c1 => ?_) (fun c1 => ?_)
  · replace hm := hm_f c1 hm
    refine v_iconst (pc := 375) (v := (0 : Int32)) C dL_law_375 (by decide) ?_
    refine v_istore (pc := 376) (lv' := [(18, .int (0 : Int32)), (0, .ref b), (1, .ref (gad G 0)), (2, .int v2), (3, .ref aq3), (4, .int v4), (5, .int v5), (6, .int v6), (10, .int v10), (11, .int v11), (12, .ref aq12), (13, .int v13), (14, .int v14), (15, .int v15), (16, .int v16), (17, .int v17)]) C dL_law_376 (by decide) rfl ?_
    simp only [Option.some.injEq, Prod.mk.injEq] at hm
    subst hm
    refine v_lv (lv' := [(0, .ref b), (1, .ref (gad G 0)), (2, .int v2), (3, .ref aq3), (4, .int v4), (5, .int v5), (6, .int v6), (10, .int v10), (11, .int v11), (12, .ref aq12), (13, .int v13), (14, .int v14), (15, .int v15), (16, .int v16), (17, .int v17), (18, .int (0 : Int32))]) [1, 2, 3, 4, 5, 6, 7, 8, 9, 10, 11, 12, 13, 14, 15, 0] rfl ?_
    exact kk
  · replace hm := hm_t c1 hm
    refine v_iconst (pc := 371) (v := (1 : Int32)) C dL_law_371 (by decide) ?_
    refine v_goto (pc := 372) (tgt := 376) C dL_law_372 (by decide) ?_
    refine v_istore (pc := 376) (lv' := [(18, .int (1 : Int32)), (0, .ref b), (1, .ref (gad G 0)), (2, .int v2), (3, .ref aq3), (4, .int v4), (5, .int v5), (6, .int v6), (10, .int v10), (11, .int v11), (12, .ref aq12), (13, .int v13), (14, .int v14), (15, .int v15), (16, .int v16), (17, .int v17)]) C dL_law_376 (by decide) rfl ?_
    simp only [Option.some.injEq, Prod.mk.injEq] at hm
    subst hm
    refine v_lv (lv' := [(0, .ref b), (1, .ref (gad G 0)), (2, .int v2), (3, .ref aq3), (4, .int v4), (5, .int v5), (6, .int v6), (10, .int v10), (11, .int v11), (12, .ref aq12), (13, .int v13), (14, .int v14), (15, .int v15), (16, .int v16), (17, .int v17), (18, .int (1 : Int32))]) [1, 2, 3, 4, 5, 6, 7, 8, 9, 10, 11, 12, 13, 14, 15, 0] rfl ?_
    exact kk
set_option maxRecDepth 100000 in
theorem w_law_S378 {G : Gx} (hi : qinj (gad G)) {X : Cx} {b L : Nat} {xs : Nat → Int32} (C : VC X cL_law 20 RL 12 436 600130 7301080) (CX : LX X b L xs) {Q : State → Prop} : ∀ (S : St) (v2 : Int32) (v4 : Int32) (v5 : Int32) (v6 : Int32) (v10 : Int32) (v11 : Int32) (v13 : Int32) (v14 : Int32) (v15 : Int32) (v16 : Int32) (v17 : Int32) (v18 : Int32) (aq3 : Nat) (ac3 : ClassId) (w3 : Nat → Int32) (aq12 : Nat) (ac12 : ClassId) (w12 : Nat → Int32) (zu : Unit) (kc : Nat) (ks : Nat), kc ≤ 600130 → ks ≤ 7301080 → m_law_S378 S v11 v17 v18 = some zu → QV G X 20 Q 403 [(0, .ref b), (1, .ref (gad G 0)), (2, .int v2), (3, .ref aq3), (4, .int v4), (5, .int v5), (6, .int v6), (10, .int v10), (11, .int v11), (12, .ref aq12), (13, .int v13), (14, .int v14), (15, .int v15), (16, .int v16), (17, .int v17), (18, .int v18)] [] (lw G S [(aq3, .inl (ac3, 4, .inl w3)), (aq12, .inl (ac12, v2.toNatClampNeg, .inl w12))]) (lt G [(ac3, .int), (ac12, .boolean)]) kc ks → QV G X 20 Q 378 [(0, .ref b), (1, .ref (gad G 0)), (2, .int v2), (3, .ref aq3), (4, .int v4), (5, .int v5), (6, .int v6), (10, .int v10), (11, .int v11), (12, .ref aq12), (13, .int v13), (14, .int v14), (15, .int v15), (16, .int v16), (17, .int v17), (18, .int v18)] [] (lw G S [(aq3, .inl (ac3, 4, .inl w3)), (aq12, .inl (ac12, v2.toNatClampNeg, .inl w12))]) (lt G [(ac3, .int), (ac12, .boolean)]) kc ks := by
  intro S v2 v4 v5 v6 v10 v11 v13 v14 v15 v16 v17 v18 aq3 ac3 w3 aq12 ac12 w12 zu kc ks hkc hks hm kk
  unfold m_law_S378 at hm
  refine v_iload (pc := 378) C dL_law_378 14 rfl ?_
  refine v_if_ge (pc := 380) (tgt := 396) C dL_law_380 (by decide) (fun c1 => ?_) (fun c1 => ?_)
  · replace hm := hm_t c1 hm
    refine v_iload (pc := 396) C dL_law_396 8 rfl ?_
    refine v_if_eq (pc := 398) (tgt := 403) C dL_law_398 (by decide) (fun c2 => ?_) (fun c2 => ?_)
    · replace hm := hm_t c2 hm
      cases hm
      refine v_lv (lv' := [(0, .ref b), (1, .ref (gad G 0)), (2, .int v2), (3, .ref aq3), (4, .int v4), (5, .int v5), (6, .int v6), (10, .int v10), (11, .int v11), (12, .ref aq12), (13, .int v13), (14, .int v14), (15, .int v15), (16, .int v16), (17, .int v17), (18, .int v18)]) [0, 1, 2, 3, 4, 5, 6, 7, 8, 9, 10, 11, 12, 13, 14, 15] rfl ?_
      exact kk
    · replace hm := hm_f c2 hm
      cases hm
  · replace hm := hm_f c1 hm
    refine v_iload (pc := 383) C dL_law_383 15 rfl ?_
    refine v_if_eq (pc := 385) (tgt := 403) C dL_law_385 (by decide) (fun c3 => ?_) (fun c3 => ?_)
    · replace hm := hm_t c3 hm
      cases hm
      refine v_lv (lv' := [(0, .ref b), (1, .ref (gad G 0)), (2, .int v2), (3, .ref aq3), (4, .int v4), (5, .int v5), (6, .int v6), (10, .int v10), (11, .int v11), (12, .ref aq12), (13, .int v13), (14, .int v14), (15, .int v15), (16, .int v16), (17, .int v17), (18, .int v18)]) [0, 1, 2, 3, 4, 5, 6, 7, 8, 9, 10, 11, 12, 13, 14, 15] rfl ?_
      exact kk
    · replace hm := hm_f c3 hm
      refine v_iload (pc := 388) C dL_law_388 8 rfl ?_
      refine v_if_ne (pc := 390) (tgt := 403) C dL_law_390 (by decide) (fun c4 => ?_) (fun c4 => ?_)
      · replace hm := hm_f c4 hm
        cases hm
        refine v_lv (lv' := [(0, .ref b), (1, .ref (gad G 0)), (2, .int v2), (3, .ref aq3), (4, .int v4), (5, .int v5), (6, .int v6), (10, .int v10), (11, .int v11), (12, .ref aq12), (13, .int v13), (14, .int v14), (15, .int v15), (16, .int v16), (17, .int v17), (18, .int v18)]) [0, 1, 2, 3, 4, 5, 6, 7, 8, 9, 10, 11, 12, 13, 14, 15] rfl ?_
        exact kk
      · replace hm := hm_t c4 hm
        refine v_goto (pc := 393) (tgt := 401) C dL_law_393 (by decide) ?_
        cases hm
set_option maxRecDepth 100000 in
theorem w_law_S414 {G : Gx} (hi : qinj (gad G)) {X : Cx} {b L : Nat} {xs : Nat → Int32} (C : VC X cL_law 20 RL 12 436 600130 7301080) (CX : LX X b L xs) {Q : State → Prop} : ∀ (S : St) (v2 : Int32) (v4 : Int32) (v5 : Int32) (v6 : Int32) (v10 : Int32) (v11 : Int32) (v13 : Int32) (v14 : Int32) (v15 : Int32) (v16 : Int32) (v17 : Int32) (v18 : Int32) (aq3 : Nat) (ac3 : ClassId) (w3 : Nat → Int32) (aq12 : Nat) (ac12 : ClassId) (w12 : Nat → Int32) (x15 : Int32) (kc : Nat) (ks : Nat), kc ≤ 600130 → ks ≤ 7301080 → m_law_S414 S v15 v18 = some x15 → QV G X 20 Q 429 [(0, .ref b), (1, .ref (gad G 0)), (2, .int v2), (3, .ref aq3), (4, .int v4), (5, .int v5), (6, .int v6), (10, .int v10), (11, .int v11), (12, .ref aq12), (13, .int v13), (14, .int v14), (15, .int x15), (16, .int v16), (17, .int v17)] [] (lw G S [(aq3, .inl (ac3, 4, .inl w3)), (aq12, .inl (ac12, v2.toNatClampNeg, .inl w12))]) (lt G [(ac3, .int), (ac12, .boolean)]) kc ks → QV G X 20 Q 414 [(0, .ref b), (1, .ref (gad G 0)), (2, .int v2), (3, .ref aq3), (4, .int v4), (5, .int v5), (6, .int v6), (10, .int v10), (11, .int v11), (12, .ref aq12), (13, .int v13), (14, .int v14), (15, .int v15), (16, .int v16), (17, .int v17), (18, .int v18)] [] (lw G S [(aq3, .inl (ac3, 4, .inl w3)), (aq12, .inl (ac12, v2.toNatClampNeg, .inl w12))]) (lt G [(ac3, .int), (ac12, .boolean)]) kc ks := by
  intro S v2 v4 v5 v6 v10 v11 v13 v14 v15 v16 v17 v18 aq3 ac3 w3 aq12 ac12 w12 x15 kc ks hkc hks hm kk
  unfold m_law_S414 at hm
  refine v_iload (pc := 414) C dL_law_414 12 rfl ?_
  refine v_iload (pc := 416) C dL_law_416 15 rfl ?_
  refine v_if_eq (pc := 418) (tgt := 425) C dL_law_418 (by decide) (fun c1 => ?_) (fun c1 => ?_)
  · replace hm := hm_t c1 hm
    refine v_iconst (pc := 425) (v := (1 : Int32)) C dL_law_425 (by decide) ?_
    refine v_iadd (pc := 426) C dL_law_426 ?_
    refine v_istore (pc := 427) (lv' := [(15, .int (v15 + (1 : Int32))), (0, .ref b), (1, .ref (gad G 0)), (2, .int v2), (3, .ref aq3), (4, .int v4), (5, .int v5), (6, .int v6), (10, .int v10), (11, .int v11), (12, .ref aq12), (13, .int v13), (14, .int v14), (16, .int v16), (17, .int v17), (18, .int v18)]) C dL_law_427 (by decide) rfl ?_
    simp only [Option.some.injEq, Prod.mk.injEq] at hm
    subst hm
    refine v_lv (lv' := [(0, .ref b), (1, .ref (gad G 0)), (2, .int v2), (3, .ref aq3), (4, .int v4), (5, .int v5), (6, .int v6), (10, .int v10), (11, .int v11), (12, .ref aq12), (13, .int v13), (14, .int v14), (15, .int (v15 + (1 : Int32))), (16, .int v16), (17, .int v17)]) [1, 2, 3, 4, 5, 6, 7, 8, 9, 10, 11, 12, 0, 13, 14] rfl ?_
    exact kk
  · replace hm := hm_f c1 hm
    refine v_iconst (pc := 421) (v := (0 : Int32)) C dL_law_421 (by decide) ?_
    refine v_goto (pc := 422) (tgt := 426) C dL_law_422 (by decide) ?_
    refine v_iadd (pc := 426) C dL_law_426 ?_
    refine v_istore (pc := 427) (lv' := [(15, .int (v15 + (0 : Int32))), (0, .ref b), (1, .ref (gad G 0)), (2, .int v2), (3, .ref aq3), (4, .int v4), (5, .int v5), (6, .int v6), (10, .int v10), (11, .int v11), (12, .ref aq12), (13, .int v13), (14, .int v14), (16, .int v16), (17, .int v17), (18, .int v18)]) C dL_law_427 (by decide) rfl ?_
    simp only [Option.some.injEq, Prod.mk.injEq] at hm
    subst hm
    refine v_lv (lv' := [(0, .ref b), (1, .ref (gad G 0)), (2, .int v2), (3, .ref aq3), (4, .int v4), (5, .int v5), (6, .int v6), (10, .int v10), (11, .int v11), (12, .ref aq12), (13, .int v13), (14, .int v14), (15, .int (v15 + (0 : Int32))), (16, .int v16), (17, .int v17)]) [1, 2, 3, 4, 5, 6, 7, 8, 9, 10, 11, 12, 0, 13, 14] rfl ?_
    exact kk
set_option maxRecDepth 100000 in
theorem w_law_L432 {G : Gx} (hi : qinj (gad G)) {X : Cx} {b L : Nat} {xs : Nat → Int32} (C : VC X cL_law 20 RL 12 436 600130 7301080) (CX : LX X b L xs) {Q : State → Prop} : ∀ (n : Nat) (S : St) (v2 : Int32) (v4 : Int32) (v5 : Int32) (v6 : Int32) (v10 : Int32) (v11 : Int32) (v13 : Int32) (v14 : Int32) (v15 : Int32) (v16 : Int32) (v17 : Int32) (v19 : Int32) (aq3 : Nat) (ac3 : ClassId) (w3 : Nat → Int32) (aq12 : Nat) (ac12 : ClassId) (w12 : Nat → Int32) (x13 : Int32) (z12 : (Nat → Int32)) (kc : Nat) (ks : Nat), kc ≤ 600130 → ks ≤ 7301080 → m_law_L432 n S v2 v13 v16 v17 v19 w12 = some (x13, z12) → QV G X 20 Q 484 [(0, .ref b), (1, .ref (gad G 0)), (2, .int v2), (3, .ref aq3), (4, .int v4), (5, .int v5), (6, .int v6), (10, .int v10), (11, .int v11), (12, .ref aq12), (13, .int x13), (14, .int v14), (15, .int v15), (16, .int v16)] [] (lw G S [(aq3, .inl (ac3, 4, .inl w3)), (aq12, .inl (ac12, v2.toNatClampNeg, .inl z12))]) (lt G [(ac3, .int), (ac12, .boolean)]) kc ks → QV G X 20 Q 432 [(0, .ref b), (1, .ref (gad G 0)), (2, .int v2), (3, .ref aq3), (4, .int v4), (5, .int v5), (6, .int v6), (10, .int v10), (11, .int v11), (12, .ref aq12), (13, .int v13), (14, .int v14), (15, .int v15), (16, .int v16), (17, .int v17), (19, .int v19)] [] (lw G S [(aq3, .inl (ac3, 4, .inl w3)), (aq12, .inl (ac12, v2.toNatClampNeg, .inl w12))]) (lt G [(ac3, .int), (ac12, .boolean)]) kc ks := by
  intro n
  induction n with
  | zero =>
    intro S v2 v4 v5 v6 v10 v11 v13 v14 v15 v16 v17 v19 aq3 ac3 w3 aq12 ac12 w12 x13 z12 kc ks hkc hks hm kk
    rw [m_law_L432] at hm
    cases hm
  | succ n ih =>
    intro S v2 v4 v5 v6 v10 v11 v13 v14 v15 v16 v17 v19 aq3 ac3 w3 aq12 ac12 w12 x13 z12 kc ks hkc hks hm kk
    rw [m_law_L432] at hm
    refine v_iload (pc := 432) C dL_law_432 15 rfl ?_
    refine v_aload_n (pc := 434) C dL_law_434 rfl 1 rfl ?_
    refine v_iload (pc := 435) C dL_law_435 13 rfl ?_
    refine v_iconst (pc := 437) (v := (0 : Int32)) C dL_law_437 (by decide) ?_
    obtain ⟨r1, h1, hm⟩ := o1_some hm
    refine v_callV (pc := 438) (k := 0) (As := [.int v16, .int (0 : Int32)]) (rest := [.int v19]) (T := TX8) C (by omega) (by omega) (c_Te_ofThing hi h1) (by decide) (ce_0 _ _ _) (ci := 6) rfl tw_658 tw_659 tw_660 tw_2 tw_661 (nA := 2) (by decide +kernel) rfl (by decide) (Nat.le_of_ble_eq_true rfl) rfl dL_law_438 ?_
    refine v_icmp_gt (pc := 441) (tgt := 484) C dL_law_441 (by decide) (fun c1 => ?_) (fun c1 => ?_)
    · replace hm := hm_t c1 hm
      simp only [Option.some.injEq, Prod.mk.injEq] at hm
      obtain ⟨rfl, rfl⟩ := hm
      refine v_lv (lv' := [(0, .ref b), (1, .ref (gad G 0)), (2, .int v2), (3, .ref aq3), (4, .int v4), (5, .int v5), (6, .int v6), (10, .int v10), (11, .int v11), (12, .ref aq12), (13, .int v13), (14, .int v14), (15, .int v15), (16, .int v16)]) [0, 1, 2, 3, 4, 5, 6, 7, 8, 9, 10, 11, 12, 13] rfl ?_
      exact kk
    · replace hm := hm_f c1 hm
      refine v_iload (pc := 444) C dL_law_444 14 rfl ?_
      refine v_iload (pc := 446) C dL_law_446 15 rfl ?_
      refine v_iadd (pc := 448) C dL_law_448 ?_
      refine v_iload_n (pc := 449) C dL_law_449 rfl 2 rfl ?_
      refine v_icmp_ge (pc := 450) (tgt := 464) C dL_law_450 (by decide) (fun c2 => ?_) (fun c2 => ?_)
      · replace hm := hm_t c2 hm
        cases hm
      · replace hm := hm_f c2 hm
        refine v_aload (pc := 453) C dL_law_453 9 rfl ?_
        refine v_iload (pc := 455) C dL_law_455 14 rfl ?_
        refine v_iload (pc := 457) C dL_law_457 15 rfl ?_
        refine v_iadd (pc := 459) C dL_law_459 ?_
        obtain ⟨b1, hm⟩ := oi_some hm
        refine v_zald (pc := 460) (p := 60) (t0 := 43) C (lw_ex 1 rfl) (lt_ex 1 rfl) b1 dL_law_460 ?_
        refine v_if_eq (pc := 461) (tgt := 466) C dL_law_461 (by decide) (fun c3 => ?_) (fun c3 => ?_)
        · replace hm := hm_t c3 hm
          refine v_aload (pc := 466) C dL_law_466 9 rfl ?_
          refine v_iload (pc := 468) C dL_law_468 14 rfl ?_
          refine v_iload (pc := 470) C dL_law_470 15 rfl ?_
          refine v_iadd (pc := 472) C dL_law_472 ?_
          refine v_iconst (pc := 473) (v := (1 : Int32)) C dL_law_473 (by decide) ?_
          obtain ⟨b2, hm⟩ := oi_some hm
          refine v_zast1 (pc := 474) (p := 60) (t0 := 43) (w' := lw G S [(aq3, .inl (ac3, 4, .inl w3)), (aq12, .inl (ac12, v2.toNatClampNeg, .inl (upd w12 (v17 + v19).toNatClampNeg (1 : Int32))))]) C (lw_ex 1 rfl) (lt_ex 1 rfl) b2 (lw_set 1 rfl) dL_law_474 ?_
          refine v_iinc (pc := 475) (k := 10) (v := (v13 + (1 : Int32))) (lv' := [(13, .int (v13 + (1 : Int32))), (0, .ref b), (1, .ref (gad G 0)), (2, .int v2), (3, .ref aq3), (4, .int v4), (5, .int v5), (6, .int v6), (10, .int v10), (11, .int v11), (12, .ref aq12), (14, .int v14), (15, .int v15), (16, .int v16), (17, .int v17), (19, .int v19)]) C dL_law_475 rfl rfl (by decide) rfl ?_
          refine v_iinc (pc := 478) (k := 15) (v := (v19 + (1 : Int32))) (lv' := [(19, .int (v19 + (1 : Int32))), (13, .int (v13 + (1 : Int32))), (0, .ref b), (1, .ref (gad G 0)), (2, .int v2), (3, .ref aq3), (4, .int v4), (5, .int v5), (6, .int v6), (10, .int v10), (11, .int v11), (12, .ref aq12), (14, .int v14), (15, .int v15), (16, .int v16), (17, .int v17)]) C dL_law_478 rfl rfl (by decide) rfl ?_
          refine v_goto (pc := 481) (tgt := 432) C dL_law_481 (by decide) ?_
          refine v_lv (lv' := [(0, .ref b), (1, .ref (gad G 0)), (2, .int v2), (3, .ref aq3), (4, .int v4), (5, .int v5), (6, .int v6), (10, .int v10), (11, .int v11), (12, .ref aq12), (13, .int (v13 + (1 : Int32))), (14, .int v14), (15, .int v15), (16, .int v16), (17, .int v17), (19, .int (v19 + (1 : Int32)))]) [2, 3, 4, 5, 6, 7, 8, 9, 10, 11, 1, 12, 13, 14, 15, 0] rfl ?_
          exact ih _ _ _ _ _ _ _ _ _ _ _ _ _ _ _ _ _ _ _ _ _ _ _ hkc hks hm kk
        · replace hm := hm_f c3 hm
          cases hm
set_option maxRecDepth 100000 in
theorem w_law_L343 {G : Gx} (hi : qinj (gad G)) {X : Cx} {b L : Nat} {xs : Nat → Int32} (C : VC X cL_law 20 RL 12 436 600130 7301080) (CX : LX X b L xs) {Q : State → Prop} : ∀ (n : Nat) (S : St) (v2 : Int32) (v4 : Int32) (v5 : Int32) (v6 : Int32) (v10 : Int32) (v11 : Int32) (v13 : Int32) (v14 : Int32) (v15 : Int32) (v16 : Int32) (aq3 : Nat) (ac3 : ClassId) (w3 : Nat → Int32) (aq12 : Nat) (ac12 : ClassId) (w12 : Nat → Int32) (x13 : Int32) (x14 : Int32) (x15 : Int32) (kc : Nat) (ks : Nat), kc ≤ 600130 → ks ≤ 7301080 → m_law_L343 n S v2 v6 v10 v11 v13 v14 v15 v16 w12 = some (x13, x14, x15) → QV G X 20 Q 490 [(0, .ref b), (1, .ref (gad G 0)), (2, .int v2), (3, .ref aq3), (4, .int v4), (5, .int v5), (6, .int v6), (10, .int v10), (13, .int x13), (14, .int x14), (15, .int x15)] [] (lw G S [(aq3, .inl (ac3, 4, .inl w3))]) (lt G [(ac3, .int)]) kc ks → QV G X 20 Q 343 [(0, .ref b), (1, .ref (gad G 0)), (2, .int v2), (3, .ref aq3), (4, .int v4), (5, .int v5), (6, .int v6), (10, .int v10), (11, .int v11), (12, .ref aq12), (13, .int v13), (14, .int v14), (15, .int v15), (16, .int v16)] [] (lw G S [(aq3, .inl (ac3, 4, .inl w3)), (aq12, .inl (ac12, v2.toNatClampNeg, .inl w12))]) (lt G [(ac3, .int), (ac12, .boolean)]) kc ks := by
  intro n
  induction n with
  | zero =>
    intro S v2 v4 v5 v6 v10 v11 v13 v14 v15 v16 aq3 ac3 w3 aq12 ac12 w12 x13 x14 x15 kc ks hkc hks hm kk
    rw [m_law_L343] at hm
    cases hm
  | succ n ih =>
    intro S v2 v4 v5 v6 v10 v11 v13 v14 v15 v16 aq3 ac3 w3 aq12 ac12 w12 x13 x14 x15 kc ks hkc hks hm kk
    rw [m_law_L343] at hm
    refine v_iload (pc := 343) C dL_law_343 13 rfl ?_
    refine v_iload (pc := 345) C dL_law_345 6 rfl ?_
    refine v_icmp_ge (pc := 347) (tgt := 490) C dL_law_347 (by decide) (fun c1 => ?_) (fun c1 => ?_)
    · replace hm := hm_t c1 hm
      simp only [Option.some.injEq, Prod.mk.injEq] at hm
      obtain ⟨rfl, rfl, rfl⟩ := hm
      refine v_lv (lv' := [(0, .ref b), (1, .ref (gad G 0)), (2, .int v2), (3, .ref aq3), (4, .int v4), (5, .int v5), (6, .int v6), (10, .int v10), (13, .int v13), (14, .int v14), (15, .int v15)]) [0, 1, 2, 3, 4, 5, 6, 7, 10, 11, 12] rfl ?_
      refine v_ex (ex' := [(aq3, .inl (ac3, 4, .inl w3))]) (et' := [(ac3, .int)]) [0] (by decide) rfl rfl ?_
      exact kk
    · replace hm := hm_f c1 hm
      refine v_aload_n (pc := 350) C dL_law_350 rfl 1 rfl ?_
      refine v_iload (pc := 351) C dL_law_351 7 rfl ?_
      refine v_iload (pc := 353) C dL_law_353 13 rfl ?_
      obtain ⟨r1, h1, hm⟩ := o1_some hm
      refine v_callV (pc := 355) (k := 0) (As := [.int v10, .int v16]) (rest := []) (T := TX8) C (by omega) (by omega) (c_Te_at hi h1) (by decide) (ce_0 _ _ _) (ci := 6) rfl tw_749 tw_750 tw_751 tw_2 tw_752 (nA := 2) (by decide +kernel) rfl (by decide) (Nat.le_of_ble_eq_true rfl) rfl dL_law_355 ?_
      refine v_istore (pc := 358) (lv' := [(17, .int r1), (0, .ref b), (1, .ref (gad G 0)), (2, .int v2), (3, .ref aq3), (4, .int v4), (5, .int v5), (6, .int v6), (10, .int v10), (11, .int v11), (12, .ref aq12), (13, .int v13), (14, .int v14), (15, .int v15), (16, .int v16)]) C dL_law_358 (by decide) rfl ?_
      refine v_lv (lv' := [(0, .ref b), (1, .ref (gad G 0)), (2, .int v2), (3, .ref aq3), (4, .int v4), (5, .int v5), (6, .int v6), (10, .int v10), (11, .int v11), (12, .ref aq12), (13, .int v13), (14, .int v14), (15, .int v15), (16, .int v16), (17, .int r1)]) [1, 2, 3, 4, 5, 6, 7, 8, 9, 10, 11, 12, 13, 14, 0] rfl ?_
      obtain ⟨y1, h2, hm⟩ := o1_some hm
      refine w_law_S360 hi C CX _ _ _ _ _ _ _ _ _ _ _ _ _ _ _ _ _ _ _ _ _ (by omega) (by omega) h2 ?_
      refine v_lv (lv' := [(0, .ref b), (1, .ref (gad G 0)), (2, .int v2), (3, .ref aq3), (4, .int v4), (5, .int v5), (6, .int v6), (10, .int v10), (11, .int v11), (12, .ref aq12), (13, .int v13), (14, .int v14), (15, .int v15), (16, .int v16), (17, .int r1), (18, .int y1)]) [0, 1, 2, 3, 4, 5, 6, 7, 8, 9, 10, 11, 12, 13, 14, 15] rfl ?_
      obtain ⟨u1, h3, hm⟩ := o1_some hm
      refine w_law_S378 hi C CX _ _ _ _ _ _ _ _ _ _ _ _ _ _ _ _ _ _ _ _ _ _ (by omega) (by omega) h3 ?_
      refine v_iload (pc := 403) C dL_law_403 14 rfl ?_
      refine v_if_ge (pc := 405) (tgt := 411) C dL_law_405 (by decide) (fun c2 => ?_) (fun c2 => ?_)
      · replace hm := hm_t c2 hm
        refine v_iinc (pc := 411) (k := 11) (v := (v14 + (1 : Int32))) (lv' := [(14, .int (v14 + (1 : Int32))), (0, .ref b), (1, .ref (gad G 0)), (2, .int v2), (3, .ref aq3), (4, .int v4), (5, .int v5), (6, .int v6), (10, .int v10), (11, .int v11), (12, .ref aq12), (13, .int v13), (15, .int v15), (16, .int v16), (17, .int r1), (18, .int y1)]) C dL_law_411 rfl rfl (by decide) rfl ?_
        refine v_lv (lv' := [(0, .ref b), (1, .ref (gad G 0)), (2, .int v2), (3, .ref aq3), (4, .int v4), (5, .int v5), (6, .int v6), (10, .int v10), (11, .int v11), (12, .ref aq12), (13, .int v13), (14, .int (v14 + (1 : Int32))), (15, .int v15), (16, .int v16), (17, .int r1), (18, .int y1)]) [1, 2, 3, 4, 5, 6, 7, 8, 9, 10, 11, 0, 12, 13, 14, 15] rfl ?_
        obtain ⟨y2, h4, hm⟩ := o1_some hm
        refine w_law_S414 hi C CX _ _ _ _ _ _ _ _ _ _ _ _ _ _ _ _ _ _ _ _ _ _ (by omega) (by omega) h4 ?_
        refine v_iconst (pc := 429) (v := (0 : Int32)) C dL_law_429 (by decide) ?_
        refine v_istore (pc := 430) (lv' := [(19, .int (0 : Int32)), (0, .ref b), (1, .ref (gad G 0)), (2, .int v2), (3, .ref aq3), (4, .int v4), (5, .int v5), (6, .int v6), (10, .int v10), (11, .int v11), (12, .ref aq12), (13, .int v13), (14, .int (v14 + (1 : Int32))), (15, .int y2), (16, .int v16), (17, .int r1)]) C dL_law_430 (by decide) rfl ?_
        refine v_lv (lv' := [(0, .ref b), (1, .ref (gad G 0)), (2, .int v2), (3, .ref aq3), (4, .int v4), (5, .int v5), (6, .int v6), (10, .int v10), (11, .int v11), (12, .ref aq12), (13, .int v13), (14, .int (v14 + (1 : Int32))), (15, .int y2), (16, .int v16), (17, .int r1), (19, .int (0 : Int32))]) [1, 2, 3, 4, 5, 6, 7, 8, 9, 10, 11, 12, 13, 14, 15, 0] rfl ?_
        obtain ⟨y3, g1, h5, hm⟩ := ob_some hm
        refine w_law_L432 hi C CX 200 _ _ _ _ _ _ _ _ _ _ _ _ _ _ _ _ _ _ _ _ _ _ _ (by omega) (by omega) h5 ?_
        refine v_iinc (pc := 484) (k := 13) (v := (v16 + (1 : Int32))) (lv' := [(16, .int (v16 + (1 : Int32))), (0, .ref b), (1, .ref (gad G 0)), (2, .int v2), (3, .ref aq3), (4, .int v4), (5, .int v5), (6, .int v6), (10, .int v10), (11, .int v11), (12, .ref aq12), (13, .int y3), (14, .int (v14 + (1 : Int32))), (15, .int y2)]) C dL_law_484 rfl rfl (by decide) rfl ?_
        refine v_goto (pc := 487) (tgt := 343) C dL_law_487 (by decide) ?_
        refine v_lv (lv' := [(0, .ref b), (1, .ref (gad G 0)), (2, .int v2), (3, .ref aq3), (4, .int v4), (5, .int v5), (6, .int v6), (10, .int v10), (11, .int v11), (12, .ref aq12), (13, .int y3), (14, .int (v14 + (1 : Int32))), (15, .int y2), (16, .int (v16 + (1 : Int32)))]) [1, 2, 3, 4, 5, 6, 7, 8, 9, 10, 11, 12, 13, 0] rfl ?_
        exact ih _ _ _ _ _ _ _ _ _ _ _ _ _ _ _ _ _ _ _ _ _ _ hkc hks hm kk
      · replace hm := hm_f c2 hm
        refine v_goto (pc := 408) (tgt := 484) C dL_law_408 (by decide) ?_
        refine v_iinc (pc := 484) (k := 13) (v := (v16 + (1 : Int32))) (lv' := [(16, .int (v16 + (1 : Int32))), (0, .ref b), (1, .ref (gad G 0)), (2, .int v2), (3, .ref aq3), (4, .int v4), (5, .int v5), (6, .int v6), (10, .int v10), (11, .int v11), (12, .ref aq12), (13, .int v13), (14, .int v14), (15, .int v15), (17, .int r1), (18, .int y1)]) C dL_law_484 rfl rfl (by decide) rfl ?_
        refine v_goto (pc := 487) (tgt := 343) C dL_law_487 (by decide) ?_
        refine v_lv (lv' := [(0, .ref b), (1, .ref (gad G 0)), (2, .int v2), (3, .ref aq3), (4, .int v4), (5, .int v5), (6, .int v6), (10, .int v10), (11, .int v11), (12, .ref aq12), (13, .int v13), (14, .int v14), (15, .int v15), (16, .int (v16 + (1 : Int32)))]) [1, 2, 3, 4, 5, 6, 7, 8, 9, 10, 11, 12, 13, 0] rfl ?_
        exact ih _ _ _ _ _ _ _ _ _ _ _ _ _ _ _ _ _ _ _ _ _ _ hkc hks hm kk
set_option maxRecDepth 100000 in
theorem w_law_S490 {G : Gx} (hi : qinj (gad G)) {X : Cx} {b L : Nat} {xs : Nat → Int32} (C : VC X cL_law 20 RL 12 436 600130 7301080) (CX : LX X b L xs) {Q : State → Prop} : ∀ (S : St) (v2 : Int32) (v4 : Int32) (v5 : Int32) (v6 : Int32) (v10 : Int32) (v13 : Int32) (v14 : Int32) (v15 : Int32) (aq3 : Nat) (ac3 : ClassId) (w3 : Nat → Int32) (zS : St) (kc : Nat) (ks : Nat), kc ≤ 600130 → ks ≤ 7301080 → m_law_S490 S v5 v10 v13 v14 v15 w3 = some zS → QV G X 20 Q 594 [(0, .ref b), (1, .ref (gad G 0)), (2, .int v2), (3, .ref aq3), (4, .int v4), (5, .int v5), (6, .int v6), (10, .int v10)] [] (lw G zS [(aq3, .inl (ac3, 4, .inl w3))]) (lt G [(ac3, .int)]) kc ks → QV G X 20 Q 490 [(0, .ref b), (1, .ref (gad G 0)), (2, .int v2), (3, .ref aq3), (4, .int v4), (5, .int v5), (6, .int v6), (10, .int v10), (13, .int v13), (14, .int v14), (15, .int v15)] [] (lw G S [(aq3, .inl (ac3, 4, .inl w3))]) (lt G [(ac3, .int)]) kc ks := by
  intro S v2 v4 v5 v6 v10 v13 v14 v15 aq3 ac3 w3 zS kc ks hkc hks hm kk
  unfold m_law_S490 at hm
  refine v_aload_n (pc := 490) C dL_law_490 rfl 1 rfl ?_
  refine v_iload (pc := 491) C dL_law_491 7 rfl ?_
  refine v_iconst (pc := 493) (v := (0 : Int32)) C dL_law_493 (by decide) ?_
  obtain ⟨r1, S1, h1, hm⟩ := ob_some hm
  refine v_callV (pc := 494) (k := 0) (As := [.int v10, .int (0 : Int32)]) (rest := []) (T := TX8) C (by omega) (by omega) (c_Te_told hi h1) (by decide) (ce_0 _ _ _) (ci := 6) rfl tw_709 tw_710 tw_711 tw_2 tw_712 (nA := 2) (by decide +kernel) rfl (by decide) (Nat.le_of_ble_eq_true rfl) rfl dL_law_494 ?_
  refine v_iload (pc := 497) C dL_law_497 9 rfl ?_
  refine v_icmp_ne (pc := 499) (tgt := 592) C dL_law_499 (by decide) (fun c1 => ?_) (fun c1 => ?_)
  · replace hm := hm_f c1 hm
    cases hm
  · replace hm := hm_t c1 hm
    refine v_aload_n (pc := 502) C dL_law_502 rfl 1 rfl ?_
    refine v_iload (pc := 503) C dL_law_503 7 rfl ?_
    refine v_iconst (pc := 505) (v := (1 : Int32)) C dL_law_505 (by decide) ?_
    obtain ⟨r2, S2, h2, hm⟩ := ob_some hm
    refine v_callV (pc := 506) (k := 0) (As := [.int v10, .int (1 : Int32)]) (rest := []) (T := TX8) C (by omega) (by omega) (c_Te_told hi h2) (by decide) (ce_0 _ _ _) (ci := 6) rfl tw_709 tw_710 tw_711 tw_2 tw_712 (nA := 2) (by decide +kernel) rfl (by decide) (Nat.le_of_ble_eq_true rfl) rfl dL_law_506 ?_
    refine v_iload (pc := 509) C dL_law_509 8 rfl ?_
    refine v_icmp_ne (pc := 511) (tgt := 592) C dL_law_511 (by decide) (fun c2 => ?_) (fun c2 => ?_)
    · replace hm := hm_f c2 hm
      cases hm
    · replace hm := hm_t c2 hm
      refine v_aload_n (pc := 514) C dL_law_514 rfl 1 rfl ?_
      refine v_iload (pc := 515) C dL_law_515 7 rfl ?_
      refine v_iconst (pc := 517) (v := (2 : Int32)) C dL_law_517 (by decide) ?_
      obtain ⟨r3, S3, h3, hm⟩ := ob_some hm
      refine v_callV (pc := 518) (k := 0) (As := [.int v10, .int (2 : Int32)]) (rest := []) (T := TX8) C (by omega) (by omega) (c_Te_told hi h3) (by decide) (ce_0 _ _ _) (ci := 6) rfl tw_709 tw_710 tw_711 tw_2 tw_712 (nA := 2) (by decide +kernel) rfl (by decide) (Nat.le_of_ble_eq_true rfl) rfl dL_law_518 ?_
      refine v_iload (pc := 521) C dL_law_521 10 rfl ?_
      refine v_icmp_ne (pc := 523) (tgt := 592) C dL_law_523 (by decide) (fun c3 => ?_) (fun c3 => ?_)
      · replace hm := hm_f c3 hm
        cases hm
      · replace hm := hm_t c3 hm
        refine v_aload_n (pc := 526) C dL_law_526 rfl 1 rfl ?_
        refine v_iload (pc := 527) C dL_law_527 7 rfl ?_
        refine v_iconst (pc := 529) (v := (3 : Int32)) C dL_law_529 (by decide) ?_
        obtain ⟨r4, S4, h4, hm⟩ := ob_some hm
        refine v_callV (pc := 530) (k := 0) (As := [.int v10, .int (3 : Int32)]) (rest := []) (T := TX8) C (by omega) (by omega) (c_Te_told hi h4) (by decide) (ce_0 _ _ _) (ci := 6) rfl tw_709 tw_710 tw_711 tw_2 tw_712 (nA := 2) (by decide +kernel) rfl (by decide) (Nat.le_of_ble_eq_true rfl) rfl dL_law_530 ?_
        refine v_aload_n (pc := 533) C dL_law_533 rfl 3 rfl ?_
        refine v_iload (pc := 534) C dL_law_534 7 rfl ?_
        obtain ⟨b1, hm⟩ := oi_some hm
        refine v_iald (pc := 536) (p := 59) (t0 := 42) C (lw_ex 0 rfl) (lt_ex 0 rfl) b1 dL_law_536 ?_
        refine v_icmp_lt (pc := 537) (tgt := 592) C dL_law_537 (by decide) (fun c4 => ?_) (fun c4 => ?_)
        · replace hm := hm_t c4 hm
          cases hm
        · replace hm := hm_f c4 hm
          refine v_aload_n (pc := 540) C dL_law_540 rfl 1 rfl ?_
          refine v_iload (pc := 541) C dL_law_541 7 rfl ?_
          refine v_iconst (pc := 543) (v := (4 : Int32)) C dL_law_543 (by decide) ?_
          obtain ⟨r5, S5, h5, hm⟩ := ob_some hm
          refine v_callV (pc := 544) (k := 0) (As := [.int v10, .int (4 : Int32)]) (rest := []) (T := TX8) C (by omega) (by omega) (c_Te_told hi h5) (by decide) (ce_0 _ _ _) (ci := 6) rfl tw_709 tw_710 tw_711 tw_2 tw_712 (nA := 2) (by decide +kernel) rfl (by decide) (Nat.le_of_ble_eq_true rfl) rfl dL_law_544 ?_
          refine v_aload_n (pc := 547) C dL_law_547 rfl 1 rfl ?_
          refine v_iload (pc := 548) C dL_law_548 7 rfl ?_
          refine v_iconst (pc := 550) (v := (3 : Int32)) C dL_law_550 (by decide) ?_
          obtain ⟨r6, S6, h6, hm⟩ := ob_some hm
          refine v_callV (pc := 551) (k := 0) (As := [.int v10, .int (3 : Int32)]) (rest := [.int r5]) (T := TX8) C (by omega) (by omega) (c_Te_told hi h6) (by decide) (ce_0 _ _ _) (ci := 6) rfl tw_709 tw_710 tw_711 tw_2 tw_712 (nA := 2) (by decide +kernel) rfl (by decide) (Nat.le_of_ble_eq_true rfl) rfl dL_law_551 ?_
          refine v_aload_n (pc := 554) C dL_law_554 rfl 3 rfl ?_
          refine v_iload (pc := 555) C dL_law_555 7 rfl ?_
          obtain ⟨b2, hm⟩ := oi_some hm
          refine v_iald (pc := 557) (p := 59) (t0 := 42) C (lw_ex 0 rfl) (lt_ex 0 rfl) b2 dL_law_557 ?_
          refine v_isub (pc := 558) C dL_law_558 ?_
          refine v_icmp_ge (pc := 559) (tgt := 575) C dL_law_559 (by decide) (fun c5 => ?_) (fun c5 => ?_)
          · replace hm := hm_t c5 hm
            refine v_aload_n (pc := 575) C dL_law_575 rfl 1 rfl ?_
            refine v_iload (pc := 576) C dL_law_576 7 rfl ?_
            refine v_iconst (pc := 578) (v := (4 : Int32)) C dL_law_578 (by decide) ?_
            obtain ⟨r7, S7, h7, hm⟩ := ob_some hm
            refine v_callV (pc := 579) (k := 0) (As := [.int v10, .int (4 : Int32)]) (rest := []) (T := TX8) C (by omega) (by omega) (c_Te_told hi h7) (by decide) (ce_0 _ _ _) (ci := 6) rfl tw_709 tw_710 tw_711 tw_2 tw_712 (nA := 2) (by decide +kernel) rfl (by decide) (Nat.le_of_ble_eq_true rfl) rfl dL_law_579 ?_
            refine v_aload_n (pc := 582) C dL_law_582 rfl 1 rfl ?_
            refine v_iload (pc := 583) C dL_law_583 7 rfl ?_
            refine v_iconst (pc := 585) (v := (3 : Int32)) C dL_law_585 (by decide) ?_
            obtain ⟨r8, S8, h8, hm⟩ := ob_some hm
            refine v_callV (pc := 586) (k := 0) (As := [.int v10, .int (3 : Int32)]) (rest := [.int r7]) (T := TX8) C (by omega) (by omega) (c_Te_told hi h8) (by decide) (ce_0 _ _ _) (ci := 6) rfl tw_709 tw_710 tw_711 tw_2 tw_712 (nA := 2) (by decide +kernel) rfl (by decide) (Nat.le_of_ble_eq_true rfl) rfl dL_law_586 ?_
            refine v_icmp_le (pc := 589) (tgt := 594) C dL_law_589 (by decide) (fun c6 => ?_) (fun c6 => ?_)
            · replace hm := hm_t c6 hm
              simp only [Option.some.injEq, Prod.mk.injEq] at hm
              subst hm
              refine v_lv (lv' := [(0, .ref b), (1, .ref (gad G 0)), (2, .int v2), (3, .ref aq3), (4, .int v4), (5, .int v5), (6, .int v6), (10, .int v10)]) [0, 1, 2, 3, 4, 5, 6, 7] rfl ?_
              exact kk
            · replace hm := hm_f c6 hm
              cases hm
          · replace hm := hm_f c5 hm
            refine v_iload (pc := 562) C dL_law_562 5 rfl ?_
            refine v_bipush (pc := 564) (v := (6 : Int32)) C dL_law_564 (by decide) ?_
            refine v_ishr (pc := 566) C dL_law_566 ?_
            refine v_bipush (pc := 567) (v := (6 : Int32)) C dL_law_567 (by decide) ?_
            obtain ⟨r9, h9, hm⟩ := o1_some hm
            refine v_callS (pc := 569) (As := [.int (v5 >>> ((6 : Int32) &&& 31)), .int (6 : Int32)]) (rest := []) C (by omega) (by omega) (c_Law_below hi h9) tw_104 tw_105 tw_101 tw_106 (nA := 2) (by decide +kernel) rfl (by decide) (Nat.le_of_ble_eq_true rfl) rfl dL_law_569 ?_
            refine v_if_gt (pc := 572) (tgt := 592) C dL_law_572 (by decide) (fun c7 => ?_) (fun c7 => ?_)
            · replace hm := hm_t c7 hm
              cases hm
            · replace hm := hm_f c7 hm
              refine v_aload_n (pc := 575) C dL_law_575 rfl 1 rfl ?_
              refine v_iload (pc := 576) C dL_law_576 7 rfl ?_
              refine v_iconst (pc := 578) (v := (4 : Int32)) C dL_law_578 (by decide) ?_
              obtain ⟨r10, S9, h10, hm⟩ := ob_some hm
              refine v_callV (pc := 579) (k := 0) (As := [.int v10, .int (4 : Int32)]) (rest := []) (T := TX8) C (by omega) (by omega) (c_Te_told hi h10) (by decide) (ce_0 _ _ _) (ci := 6) rfl tw_709 tw_710 tw_711 tw_2 tw_712 (nA := 2) (by decide +kernel) rfl (by decide) (Nat.le_of_ble_eq_true rfl) rfl dL_law_579 ?_
              refine v_aload_n (pc := 582) C dL_law_582 rfl 1 rfl ?_
              refine v_iload (pc := 583) C dL_law_583 7 rfl ?_
              refine v_iconst (pc := 585) (v := (3 : Int32)) C dL_law_585 (by decide) ?_
              obtain ⟨r11, S10, h11, hm⟩ := ob_some hm
              refine v_callV (pc := 586) (k := 0) (As := [.int v10, .int (3 : Int32)]) (rest := [.int r10]) (T := TX8) C (by omega) (by omega) (c_Te_told hi h11) (by decide) (ce_0 _ _ _) (ci := 6) rfl tw_709 tw_710 tw_711 tw_2 tw_712 (nA := 2) (by decide +kernel) rfl (by decide) (Nat.le_of_ble_eq_true rfl) rfl dL_law_586 ?_
              refine v_icmp_le (pc := 589) (tgt := 594) C dL_law_589 (by decide) (fun c8 => ?_) (fun c8 => ?_)
              · replace hm := hm_t c8 hm
                simp only [Option.some.injEq, Prod.mk.injEq] at hm
                subst hm
                refine v_lv (lv' := [(0, .ref b), (1, .ref (gad G 0)), (2, .int v2), (3, .ref aq3), (4, .int v4), (5, .int v5), (6, .int v6), (10, .int v10)]) [0, 1, 2, 3, 4, 5, 6, 7] rfl ?_
                exact kk
              · replace hm := hm_f c8 hm
                cases hm
set_option maxRecDepth 100000 in
theorem w_law_L301 {G : Gx} (hi : qinj (gad G)) {X : Cx} {b L : Nat} {xs : Nat → Int32} (C : VC X cL_law 20 RL 12 436 600130 7301080) (CX : LX X b L xs) {Q : State → Prop} : ∀ (n : Nat) (S : St) (v2 : Int32) (v4 : Int32) (v5 : Int32) (v6 : Int32) (v10 : Int32) (aq3 : Nat) (ac3 : ClassId) (w3 : Nat → Int32) (z3 : (Nat → Int32)) (zS : St) (kc : Nat) (ks : Nat), kc + 1 * n ≤ 600130 → ks + 160 * n ≤ 7301080 → m_law_L301 n S v2 v5 v6 v10 w3 = some (z3, zS) → QV G X 20 Q 611 [(0, .ref b), (1, .ref (gad G 0)), (2, .int v2), (3, .ref aq3), (4, .int v4), (6, .int v6)] [] (lw G zS [(aq3, .inl (ac3, 4, .inl z3))]) (lt G [(ac3, .int)]) (kc + 1 * n) (ks + 160 * n) → QV G X 20 Q 301 [(0, .ref b), (1, .ref (gad G 0)), (2, .int v2), (3, .ref aq3), (4, .int v4), (5, .int v5), (6, .int v6), (10, .int v10)] [] (lw G S [(aq3, .inl (ac3, 4, .inl w3))]) (lt G [(ac3, .int)]) kc ks := by
  intro n
  induction n with
  | zero =>
    intro S v2 v4 v5 v6 v10 aq3 ac3 w3 z3 zS kc ks hkc hks hm kk
    rw [m_law_L301] at hm
    cases hm
  | succ n ih =>
    intro S v2 v4 v5 v6 v10 aq3 ac3 w3 z3 zS kc ks hkc hks hm kk
    rw [m_law_L301] at hm
    refine v_iload (pc := 301) C dL_law_301 7 rfl ?_
    refine v_iconst (pc := 303) (v := (4 : Int32)) C dL_law_303 (by decide) ?_
    refine v_icmp_ge (pc := 304) (tgt := 611) C dL_law_304 (by decide) (fun c1 => ?_) (fun c1 => ?_)
    · replace hm := hm_t c1 hm
      simp only [Option.some.injEq, Prod.mk.injEq] at hm
      obtain ⟨rfl, rfl⟩ := hm
      refine v_lv (lv' := [(0, .ref b), (1, .ref (gad G 0)), (2, .int v2), (3, .ref aq3), (4, .int v4), (6, .int v6)]) [0, 1, 2, 3, 4, 6] rfl ?_
      refine v_widen (kc' := kc + 1 * (n + 1)) (ks' := ks + 160 * (n + 1)) (by omega) (by omega) ?_
      exact kk
    · replace hm := hm_f c1 hm
      refine v_lv (lv' := [(0, .ref b), (1, .ref (gad G 0)), (2, .int v2), (3, .ref aq3), (4, .int v4), (5, .int v5), (6, .int v6), (10, .int v10)]) [0, 1, 2, 3, 4, 5, 6, 7] rfl ?_
      obtain ⟨y1, S1, h1, hm⟩ := ob_some hm
      refine w_law_S307 hi C CX _ _ _ _ _ _ _ _ _ _ _ _ _ (by omega) (by omega) h1 ?_
      refine v_iload_n (pc := 326) C dL_law_326 rfl 2 rfl ?_
      obtain ⟨⟨b1, b1l⟩, hm⟩ := oi_some hm
      refine v_newZ (pc := 327) (N' := v2.toNatClampNeg) C tw_4 b1 rfl (Nat.le_trans (Nat.mul_le_mul_right _ b1l) (by decide)) (by omega) (by omega) dL_law_327 (fun qn1 cn1 => ?_)
      refine v_widen (kc' := (kc + 1)) (ks' := (ks + 160)) (by omega) (by omega) ?_
      refine v_eq (w' := lw G S1 [(aq3, .inl (ac3, 4, .inl w3)), (qn1, .inl (cn1, v2.toNatClampNeg, .inl (fun _ => (0 : Int32))))]) (ty' := lt G [(ac3, .int), (cn1, .boolean)]) (by simp [lw]) (by simp [lt]) ?_
      refine v_astore (pc := 329) (lv' := [(12, .ref qn1), (0, .ref b), (1, .ref (gad G 0)), (2, .int v2), (3, .ref aq3), (4, .int v4), (5, .int v5), (6, .int v6), (10, .int v10), (11, .int y1)]) C dL_law_329 (by decide) rfl ?_
      refine v_iconst (pc := 331) (v := (0 : Int32)) C dL_law_331 (by decide) ?_
      refine v_istore (pc := 332) (lv' := [(13, .int (0 : Int32)), (12, .ref qn1), (0, .ref b), (1, .ref (gad G 0)), (2, .int v2), (3, .ref aq3), (4, .int v4), (5, .int v5), (6, .int v6), (10, .int v10), (11, .int y1)]) C dL_law_332 (by decide) rfl ?_
      refine v_iconst (pc := 334) (v := (0 : Int32)) C dL_law_334 (by decide) ?_
      refine v_istore (pc := 335) (lv' := [(14, .int (0 : Int32)), (13, .int (0 : Int32)), (12, .ref qn1), (0, .ref b), (1, .ref (gad G 0)), (2, .int v2), (3, .ref aq3), (4, .int v4), (5, .int v5), (6, .int v6), (10, .int v10), (11, .int y1)]) C dL_law_335 (by decide) rfl ?_
      refine v_iconst (pc := 337) (v := (0 : Int32)) C dL_law_337 (by decide) ?_
      refine v_istore (pc := 338) (lv' := [(15, .int (0 : Int32)), (14, .int (0 : Int32)), (13, .int (0 : Int32)), (12, .ref qn1), (0, .ref b), (1, .ref (gad G 0)), (2, .int v2), (3, .ref aq3), (4, .int v4), (5, .int v5), (6, .int v6), (10, .int v10), (11, .int y1)]) C dL_law_338 (by decide) rfl ?_
      refine v_iconst (pc := 340) (v := (0 : Int32)) C dL_law_340 (by decide) ?_
      refine v_istore (pc := 341) (lv' := [(16, .int (0 : Int32)), (15, .int (0 : Int32)), (14, .int (0 : Int32)), (13, .int (0 : Int32)), (12, .ref qn1), (0, .ref b), (1, .ref (gad G 0)), (2, .int v2), (3, .ref aq3), (4, .int v4), (5, .int v5), (6, .int v6), (10, .int v10), (11, .int y1)]) C dL_law_341 (by decide) rfl ?_
      refine v_lv (lv' := [(0, .ref b), (1, .ref (gad G 0)), (2, .int v2), (3, .ref aq3), (4, .int v4), (5, .int v5), (6, .int v6), (10, .int v10), (11, .int y1), (12, .ref qn1), (13, .int (0 : Int32)), (14, .int (0 : Int32)), (15, .int (0 : Int32)), (16, .int (0 : Int32))]) [5, 6, 7, 8, 9, 10, 11, 12, 13, 4, 3, 2, 1, 0] rfl ?_
      obtain ⟨y2, y3, y4, h2, hm⟩ := oc_some hm
      refine w_law_L343 hi C CX 200 _ _ _ _ _ _ _ _ _ _ _ _ _ _ _ _ _ _ _ _ _ _ (by omega) (by omega) h2 ?_
      refine v_lv (lv' := [(0, .ref b), (1, .ref (gad G 0)), (2, .int v2), (3, .ref aq3), (4, .int v4), (5, .int v5), (6, .int v6), (10, .int v10), (13, .int y2), (14, .int y3), (15, .int y4)]) [0, 1, 2, 3, 4, 5, 6, 7, 8, 9, 10] rfl ?_
      obtain ⟨S2, h3, hm⟩ := o1_some hm
      refine w_law_S490 hi C CX _ _ _ _ _ _ _ _ _ _ _ _ _ _ _ (by omega) (by omega) h3 ?_
      refine v_aload_n (pc := 594) C dL_law_594 rfl 3 rfl ?_
      refine v_iload (pc := 595) C dL_law_595 7 rfl ?_
      refine v_aload_n (pc := 597) C dL_law_597 rfl 1 rfl ?_
      refine v_iload (pc := 598) C dL_law_598 7 rfl ?_
      refine v_iconst (pc := 600) (v := (3 : Int32)) C dL_law_600 (by decide) ?_
      obtain ⟨r1, S3, h4, hm⟩ := ob_some hm
      refine v_callV (pc := 601) (k := 0) (As := [.int v10, .int (3 : Int32)]) (rest := [.int v10, .ref aq3]) (T := TX8) C (by omega) (by omega) (c_Te_told hi h4) (by decide) (ce_0 _ _ _) (ci := 6) rfl tw_709 tw_710 tw_711 tw_2 tw_712 (nA := 2) (by decide +kernel) rfl (by decide) (Nat.le_of_ble_eq_true rfl) rfl dL_law_601 ?_
      obtain ⟨b2, hm⟩ := oi_some hm
      refine v_iast (pc := 604) (p := 59) (t0 := 42) (w' := lw G S3 [(aq3, .inl (ac3, 4, .inl (upd w3 v10.toNatClampNeg r1)))]) C (lw_ex 0 rfl) (lt_ex 0 rfl) b2 (lw_set 0 rfl) dL_law_604 ?_
      refine v_iinc (pc := 605) (k := 7) (v := (v10 + (1 : Int32))) (lv' := [(10, .int (v10 + (1 : Int32))), (0, .ref b), (1, .ref (gad G 0)), (2, .int v2), (3, .ref aq3), (4, .int v4), (5, .int v5), (6, .int v6)]) C dL_law_605 rfl rfl (by decide) rfl ?_
      refine v_goto (pc := 608) (tgt := 301) C dL_law_608 (by decide) ?_
      refine v_lv (lv' := [(0, .ref b), (1, .ref (gad G 0)), (2, .int v2), (3, .ref aq3), (4, .int v4), (5, .int v5), (6, .int v6), (10, .int (v10 + (1 : Int32)))]) [1, 2, 3, 4, 5, 6, 7, 0] rfl ?_
      exact ih _ _ _ _ _ _ _ _ _ _ _ (kc + 1) (ks + 160) (by omega) (by omega) hm (by rw [show (kc + 1) + 1 * n = kc + 1 * (n + 1) by omega, show (ks + 160) + 160 * n = ks + 160 * (n + 1) by omega]; exact kk)
set_option maxRecDepth 100000 in
theorem w_law_S630 {G : Gx} (hi : qinj (gad G)) {X : Cx} {b L : Nat} {xs : Nat → Int32} (C : VC X cL_law 20 RL 12 436 600130 7301080) (CX : LX X b L xs) {Q : State → Prop} : ∀ (S : St) (v2 : Int32) (v4 : Int32) (v6 : Int32) (v10 : Int32) (v11 : Int32) (aq3 : Nat) (ac3 : ClassId) (w3 : Nat → Int32) (zS : St) (kc : Nat) (ks : Nat), kc ≤ 600130 → ks ≤ 7301080 → m_law_S630 S v10 v11 = some zS → QV G X 20 Q 663 [(0, .ref b), (1, .ref (gad G 0)), (2, .int v2), (3, .ref aq3), (4, .int v4), (6, .int v6), (10, .int v10), (11, .int v11)] [] (lw G zS [(aq3, .inl (ac3, 4, .inl w3))]) (lt G [(ac3, .int)]) kc ks → QV G X 20 Q 630 [(0, .ref b), (1, .ref (gad G 0)), (2, .int v2), (3, .ref aq3), (4, .int v4), (6, .int v6), (10, .int v10), (11, .int v11)] [] (lw G S [(aq3, .inl (ac3, 4, .inl w3))]) (lt G [(ac3, .int)]) kc ks := by
  intro S v2 v4 v6 v10 v11 aq3 ac3 w3 zS kc ks hkc hks hm kk
  unfold m_law_S630 at hm
  refine v_iload (pc := 630) C dL_law_630 7 rfl ?_
  refine v_if_eq (pc := 632) (tgt := 661) C dL_law_632 (by decide) (fun c1 => ?_) (fun c1 => ?_)
  · replace hm := hm_t c1 hm
    cases hm
  · replace hm := hm_f c1 hm
    refine v_iload (pc := 635) C dL_law_635 7 rfl ?_
    refine v_if_ge (pc := 637) (tgt := 663) C dL_law_637 (by decide) (fun c2 => ?_) (fun c2 => ?_)
    · replace hm := hm_t c2 hm
      simp only [Option.some.injEq, Prod.mk.injEq] at hm
      subst hm
      refine v_lv (lv' := [(0, .ref b), (1, .ref (gad G 0)), (2, .int v2), (3, .ref aq3), (4, .int v4), (6, .int v6), (10, .int v10), (11, .int v11)]) [0, 1, 2, 3, 4, 5, 6, 7] rfl ?_
      exact kk
    · replace hm := hm_f c2 hm
      refine v_aload_n (pc := 640) C dL_law_640 rfl 1 rfl ?_
      refine v_iload (pc := 641) C dL_law_641 6 rfl ?_
      refine v_iconst (pc := 643) (v := (1 : Int32)) C dL_law_643 (by decide) ?_
      obtain ⟨r1, h1, hm⟩ := o1_some hm
      refine v_callV (pc := 644) (k := 0) (As := [.int v10, .int (1 : Int32)]) (rest := []) (T := TX8) C (by omega) (by omega) (c_Te_ofThing hi h1) (by decide) (ce_0 _ _ _) (ci := 6) rfl tw_658 tw_659 tw_660 tw_2 tw_661 (nA := 2) (by decide +kernel) rfl (by decide) (Nat.le_of_ble_eq_true rfl) rfl dL_law_644 ?_
      refine v_iconst (pc := 647) (v := (1 : Int32)) C dL_law_647 (by decide) ?_
      refine v_icmp_ne (pc := 648) (tgt := 663) C dL_law_648 (by decide) (fun c3 => ?_) (fun c3 => ?_)
      · replace hm := hm_f c3 hm
        simp only [Option.some.injEq, Prod.mk.injEq] at hm
        subst hm
        refine v_lv (lv' := [(0, .ref b), (1, .ref (gad G 0)), (2, .int v2), (3, .ref aq3), (4, .int v4), (6, .int v6), (10, .int v10), (11, .int v11)]) [0, 1, 2, 3, 4, 5, 6, 7] rfl ?_
        exact kk
      · replace hm := hm_t c3 hm
        refine v_aload_n (pc := 651) C dL_law_651 rfl 1 rfl ?_
        refine v_iconst (pc := 652) (v := (3 : Int32)) C dL_law_652 (by decide) ?_
        refine v_bipush (pc := 653) (v := (7 : Int32)) C dL_law_653 (by decide) ?_
        obtain ⟨r2, S1, h2, hm⟩ := ob_some hm
        refine v_callV (pc := 655) (k := 0) (As := [.int (3 : Int32), .int (7 : Int32)]) (rest := []) (T := TX8) C (by omega) (by omega) (c_Te_told hi h2) (by decide) (ce_0 _ _ _) (ci := 6) rfl tw_709 tw_710 tw_711 tw_2 tw_712 (nA := 2) (by decide +kernel) rfl (by decide) (Nat.le_of_ble_eq_true rfl) rfl dL_law_655 ?_
        refine v_if_ne (pc := 658) (tgt := 663) C dL_law_658 (by decide) (fun c4 => ?_) (fun c4 => ?_)
        · replace hm := hm_f c4 hm
          simp only [Option.some.injEq, Prod.mk.injEq] at hm
          subst hm
          refine v_lv (lv' := [(0, .ref b), (1, .ref (gad G 0)), (2, .int v2), (3, .ref aq3), (4, .int v4), (6, .int v6), (10, .int v10), (11, .int v11)]) [0, 1, 2, 3, 4, 5, 6, 7] rfl ?_
          exact kk
        · replace hm := hm_t c4 hm
          cases hm
set_option maxRecDepth 100000 in
theorem w_law_S691 {G : Gx} (hi : qinj (gad G)) {X : Cx} {b L : Nat} {xs : Nat → Int32} (C : VC X cL_law 20 RL 12 436 600130 7301080) (CX : LX X b L xs) {Q : State → Prop} : ∀ (S : St) (v2 : Int32) (v4 : Int32) (v6 : Int32) (v10 : Int32) (v11 : Int32) (v12 : Int32) (v13 : Int32) (v14 : Int32) (aq3 : Nat) (ac3 : ClassId) (w3 : Nat → Int32) (x12 : Int32) (kc : Nat) (ks : Nat), kc ≤ 600130 → ks ≤ 7301080 → m_law_S691 S v10 v12 v13 v14 = some x12 → QV G X 20 Q 724 [(0, .ref b), (1, .ref (gad G 0)), (2, .int v2), (3, .ref aq3), (4, .int v4), (6, .int v6), (10, .int v10), (11, .int v11), (12, .int x12), (13, .int v13), (14, .int v14)] [] (lw G S [(aq3, .inl (ac3, 4, .inl w3))]) (lt G [(ac3, .int)]) kc ks → QV G X 20 Q 691 [(0, .ref b), (1, .ref (gad G 0)), (2, .int v2), (3, .ref aq3), (4, .int v4), (6, .int v6), (10, .int v10), (11, .int v11), (12, .int v12), (13, .int v13), (14, .int v14)] [] (lw G S [(aq3, .inl (ac3, 4, .inl w3))]) (lt G [(ac3, .int)]) kc ks := by
  intro S v2 v4 v6 v10 v11 v12 v13 v14 aq3 ac3 w3 x12 kc ks hkc hks hm kk
  unfold m_law_S691 at hm
  refine v_iload (pc := 691) C dL_law_691 8 rfl ?_
  refine v_aload_n (pc := 693) C dL_law_693 rfl 1 rfl ?_
  refine v_iconst (pc := 694) (v := (3 : Int32)) C dL_law_694 (by decide) ?_
  refine v_iload (pc := 695) C dL_law_695 9 rfl ?_
  obtain ⟨r1, h1, hm⟩ := o1_some hm
  refine v_callV (pc := 697) (k := 0) (As := [.int (3 : Int32), .int v13]) (rest := [.int v12]) (T := TX8) C (by omega) (by omega) (c_Te_at hi h1) (by decide) (ce_0 _ _ _) (ci := 6) rfl tw_749 tw_750 tw_751 tw_2 tw_752 (nA := 2) (by decide +kernel) rfl (by decide) (Nat.le_of_ble_eq_true rfl) rfl dL_law_697 ?_
  refine v_if_lt (pc := 700) (tgt := 720) C dL_law_700 (by decide) (fun c1 => ?_) (fun c1 => ?_)
  · replace hm := hm_t c1 hm
    refine v_iconst (pc := 720) (v := (0 : Int32)) C dL_law_720 (by decide) ?_
    refine v_iadd (pc := 721) C dL_law_721 ?_
    refine v_istore (pc := 722) (lv' := [(12, .int (v12 + (0 : Int32))), (0, .ref b), (1, .ref (gad G 0)), (2, .int v2), (3, .ref aq3), (4, .int v4), (6, .int v6), (10, .int v10), (11, .int v11), (13, .int v13), (14, .int v14)]) C dL_law_722 (by decide) rfl ?_
    simp only [Option.some.injEq, Prod.mk.injEq] at hm
    subst hm
    refine v_lv (lv' := [(0, .ref b), (1, .ref (gad G 0)), (2, .int v2), (3, .ref aq3), (4, .int v4), (6, .int v6), (10, .int v10), (11, .int v11), (12, .int (v12 + (0 : Int32))), (13, .int v13), (14, .int v14)]) [1, 2, 3, 4, 5, 6, 7, 8, 0, 9, 10] rfl ?_
    exact kk
  · replace hm := hm_f c1 hm
    refine v_aload_n (pc := 703) C dL_law_703 rfl 1 rfl ?_
    refine v_iload (pc := 704) C dL_law_704 9 rfl ?_
    refine v_iload (pc := 706) C dL_law_706 10 rfl ?_
    obtain ⟨r2, h2, hm⟩ := o1_some hm
    refine v_callV (pc := 708) (k := 0) (As := [.int v13, .int v14]) (rest := [.int v12]) (T := TX8) C (by omega) (by omega) (c_Te_named hi h2) (by decide) (ce_0 _ _ _) (ci := 6) rfl tw_689 tw_690 tw_691 tw_2 tw_692 (nA := 2) (by decide +kernel) rfl (by decide) (Nat.le_of_ble_eq_true rfl) rfl dL_law_708 ?_
    refine v_iload (pc := 711) C dL_law_711 6 rfl ?_
    refine v_icmp_ne (pc := 713) (tgt := 720) C dL_law_713 (by decide) (fun c2 => ?_) (fun c2 => ?_)
    · replace hm := hm_f c2 hm
      refine v_iconst (pc := 720) (v := (0 : Int32)) C dL_law_720 (by decide) ?_
      refine v_iadd (pc := 721) C dL_law_721 ?_
      refine v_istore (pc := 722) (lv' := [(12, .int (v12 + (0 : Int32))), (0, .ref b), (1, .ref (gad G 0)), (2, .int v2), (3, .ref aq3), (4, .int v4), (6, .int v6), (10, .int v10), (11, .int v11), (13, .int v13), (14, .int v14)]) C dL_law_722 (by decide) rfl ?_
      simp only [Option.some.injEq, Prod.mk.injEq] at hm
      subst hm
      refine v_lv (lv' := [(0, .ref b), (1, .ref (gad G 0)), (2, .int v2), (3, .ref aq3), (4, .int v4), (6, .int v6), (10, .int v10), (11, .int v11), (12, .int (v12 + (0 : Int32))), (13, .int v13), (14, .int v14)]) [1, 2, 3, 4, 5, 6, 7, 8, 0, 9, 10] rfl ?_
      exact kk
    · replace hm := hm_t c2 hm
      refine v_iconst (pc := 716) (v := (1 : Int32)) C dL_law_716 (by decide) ?_
      refine v_goto (pc := 717) (tgt := 721) C dL_law_717 (by decide) ?_
      refine v_iadd (pc := 721) C dL_law_721 ?_
      refine v_istore (pc := 722) (lv' := [(12, .int (v12 + (1 : Int32))), (0, .ref b), (1, .ref (gad G 0)), (2, .int v2), (3, .ref aq3), (4, .int v4), (6, .int v6), (10, .int v10), (11, .int v11), (13, .int v13), (14, .int v14)]) C dL_law_722 (by decide) rfl ?_
      simp only [Option.some.injEq, Prod.mk.injEq] at hm
      subst hm
      refine v_lv (lv' := [(0, .ref b), (1, .ref (gad G 0)), (2, .int v2), (3, .ref aq3), (4, .int v4), (6, .int v6), (10, .int v10), (11, .int v11), (12, .int (v12 + (1 : Int32))), (13, .int v13), (14, .int v14)]) [1, 2, 3, 4, 5, 6, 7, 8, 0, 9, 10] rfl ?_
      exact kk
set_option maxRecDepth 100000 in
theorem w_law_L679 {G : Gx} (hi : qinj (gad G)) {X : Cx} {b L : Nat} {xs : Nat → Int32} (C : VC X cL_law 20 RL 12 436 600130 7301080) (CX : LX X b L xs) {Q : State → Prop} : ∀ (n : Nat) (S : St) (v2 : Int32) (v4 : Int32) (v6 : Int32) (v10 : Int32) (v11 : Int32) (v12 : Int32) (v13 : Int32) (v14 : Int32) (aq3 : Nat) (ac3 : ClassId) (w3 : Nat → Int32) (x12 : Int32) (kc : Nat) (ks : Nat), kc ≤ 600130 → ks ≤ 7301080 → m_law_L679 n S v10 v12 v13 v14 = some x12 → QV G X 20 Q 730 [(0, .ref b), (1, .ref (gad G 0)), (2, .int v2), (3, .ref aq3), (4, .int v4), (6, .int v6), (10, .int v10), (11, .int v11), (12, .int x12), (13, .int v13)] [] (lw G S [(aq3, .inl (ac3, 4, .inl w3))]) (lt G [(ac3, .int)]) kc ks → QV G X 20 Q 679 [(0, .ref b), (1, .ref (gad G 0)), (2, .int v2), (3, .ref aq3), (4, .int v4), (6, .int v6), (10, .int v10), (11, .int v11), (12, .int v12), (13, .int v13), (14, .int v14)] [] (lw G S [(aq3, .inl (ac3, 4, .inl w3))]) (lt G [(ac3, .int)]) kc ks := by
  intro n
  induction n with
  | zero =>
    intro S v2 v4 v6 v10 v11 v12 v13 v14 aq3 ac3 w3 x12 kc ks hkc hks hm kk
    rw [m_law_L679] at hm
    cases hm
  | succ n ih =>
    intro S v2 v4 v6 v10 v11 v12 v13 v14 aq3 ac3 w3 x12 kc ks hkc hks hm kk
    rw [m_law_L679] at hm
    refine v_iload (pc := 679) C dL_law_679 10 rfl ?_
    refine v_aload_n (pc := 681) C dL_law_681 rfl 1 rfl ?_
    refine v_iload (pc := 682) C dL_law_682 9 rfl ?_
    refine v_iconst (pc := 684) (v := (0 : Int32)) C dL_law_684 (by decide) ?_
    obtain ⟨r1, h1, hm⟩ := o1_some hm
    refine v_callV (pc := 685) (k := 0) (As := [.int v13, .int (0 : Int32)]) (rest := [.int v14]) (T := TX8) C (by omega) (by omega) (c_Te_ofThing hi h1) (by decide) (ce_0 _ _ _) (ci := 6) rfl tw_658 tw_659 tw_660 tw_2 tw_661 (nA := 2) (by decide +kernel) rfl (by decide) (Nat.le_of_ble_eq_true rfl) rfl dL_law_685 ?_
    refine v_icmp_ge (pc := 688) (tgt := 730) C dL_law_688 (by decide) (fun c1 => ?_) (fun c1 => ?_)
    · replace hm := hm_t c1 hm
      simp only [Option.some.injEq, Prod.mk.injEq] at hm
      subst hm
      refine v_lv (lv' := [(0, .ref b), (1, .ref (gad G 0)), (2, .int v2), (3, .ref aq3), (4, .int v4), (6, .int v6), (10, .int v10), (11, .int v11), (12, .int v12), (13, .int v13)]) [0, 1, 2, 3, 4, 5, 6, 7, 8, 9] rfl ?_
      exact kk
    · replace hm := hm_f c1 hm
      refine v_lv (lv' := [(0, .ref b), (1, .ref (gad G 0)), (2, .int v2), (3, .ref aq3), (4, .int v4), (6, .int v6), (10, .int v10), (11, .int v11), (12, .int v12), (13, .int v13), (14, .int v14)]) [0, 1, 2, 3, 4, 5, 6, 7, 8, 9, 10] rfl ?_
      obtain ⟨y1, h2, hm⟩ := o1_some hm
      refine w_law_S691 hi C CX _ _ _ _ _ _ _ _ _ _ _ _ _ _ _ (by omega) (by omega) h2 ?_
      refine v_iinc (pc := 724) (k := 10) (v := (v14 + (1 : Int32))) (lv' := [(14, .int (v14 + (1 : Int32))), (0, .ref b), (1, .ref (gad G 0)), (2, .int v2), (3, .ref aq3), (4, .int v4), (6, .int v6), (10, .int v10), (11, .int v11), (12, .int y1), (13, .int v13)]) C dL_law_724 rfl rfl (by decide) rfl ?_
      refine v_goto (pc := 727) (tgt := 679) C dL_law_727 (by decide) ?_
      refine v_lv (lv' := [(0, .ref b), (1, .ref (gad G 0)), (2, .int v2), (3, .ref aq3), (4, .int v4), (6, .int v6), (10, .int v10), (11, .int v11), (12, .int y1), (13, .int v13), (14, .int (v14 + (1 : Int32)))]) [1, 2, 3, 4, 5, 6, 7, 8, 9, 10, 0] rfl ?_
      exact ih _ _ _ _ _ _ _ _ _ _ _ _ _ _ _ hkc hks hm kk
set_option maxRecDepth 100000 in
theorem w_law_L669 {G : Gx} (hi : qinj (gad G)) {X : Cx} {b L : Nat} {xs : Nat → Int32} (C : VC X cL_law 20 RL 12 436 600130 7301080) (CX : LX X b L xs) {Q : State → Prop} : ∀ (n : Nat) (S : St) (v2 : Int32) (v4 : Int32) (v6 : Int32) (v10 : Int32) (v11 : Int32) (v12 : Int32) (v13 : Int32) (aq3 : Nat) (ac3 : ClassId) (w3 : Nat → Int32) (x12 : Int32) (kc : Nat) (ks : Nat), kc ≤ 600130 → ks ≤ 7301080 → m_law_L669 n S v6 v10 v12 v13 = some x12 → QV G X 20 Q 736 [(0, .ref b), (1, .ref (gad G 0)), (2, .int v2), (3, .ref aq3), (4, .int v4), (6, .int v6), (10, .int v10), (11, .int v11), (12, .int x12)] [] (lw G S [(aq3, .inl (ac3, 4, .inl w3))]) (lt G [(ac3, .int)]) kc ks → QV G X 20 Q 669 [(0, .ref b), (1, .ref (gad G 0)), (2, .int v2), (3, .ref aq3), (4, .int v4), (6, .int v6), (10, .int v10), (11, .int v11), (12, .int v12), (13, .int v13)] [] (lw G S [(aq3, .inl (ac3, 4, .inl w3))]) (lt G [(ac3, .int)]) kc ks := by
  intro n
  induction n with
  | zero =>
    intro S v2 v4 v6 v10 v11 v12 v13 aq3 ac3 w3 x12 kc ks hkc hks hm kk
    rw [m_law_L669] at hm
    cases hm
  | succ n ih =>
    intro S v2 v4 v6 v10 v11 v12 v13 aq3 ac3 w3 x12 kc ks hkc hks hm kk
    rw [m_law_L669] at hm
    refine v_iload (pc := 669) C dL_law_669 9 rfl ?_
    refine v_iload (pc := 671) C dL_law_671 5 rfl ?_
    refine v_icmp_ge (pc := 673) (tgt := 736) C dL_law_673 (by decide) (fun c1 => ?_) (fun c1 => ?_)
    · replace hm := hm_t c1 hm
      simp only [Option.some.injEq, Prod.mk.injEq] at hm
      subst hm
      refine v_lv (lv' := [(0, .ref b), (1, .ref (gad G 0)), (2, .int v2), (3, .ref aq3), (4, .int v4), (6, .int v6), (10, .int v10), (11, .int v11), (12, .int v12)]) [0, 1, 2, 3, 4, 5, 6, 7, 8] rfl ?_
      exact kk
    · replace hm := hm_f c1 hm
      refine v_iconst (pc := 676) (v := (0 : Int32)) C dL_law_676 (by decide) ?_
      refine v_istore (pc := 677) (lv' := [(14, .int (0 : Int32)), (0, .ref b), (1, .ref (gad G 0)), (2, .int v2), (3, .ref aq3), (4, .int v4), (6, .int v6), (10, .int v10), (11, .int v11), (12, .int v12), (13, .int v13)]) C dL_law_677 (by decide) rfl ?_
      refine v_lv (lv' := [(0, .ref b), (1, .ref (gad G 0)), (2, .int v2), (3, .ref aq3), (4, .int v4), (6, .int v6), (10, .int v10), (11, .int v11), (12, .int v12), (13, .int v13), (14, .int (0 : Int32))]) [1, 2, 3, 4, 5, 6, 7, 8, 9, 10, 0] rfl ?_
      obtain ⟨y1, h1, hm⟩ := o1_some hm
      refine w_law_L679 hi C CX 200 _ _ _ _ _ _ _ _ _ _ _ _ _ _ _ (by omega) (by omega) h1 ?_
      refine v_iinc (pc := 730) (k := 9) (v := (v13 + (1 : Int32))) (lv' := [(13, .int (v13 + (1 : Int32))), (0, .ref b), (1, .ref (gad G 0)), (2, .int v2), (3, .ref aq3), (4, .int v4), (6, .int v6), (10, .int v10), (11, .int v11), (12, .int y1)]) C dL_law_730 rfl rfl (by decide) rfl ?_
      refine v_goto (pc := 733) (tgt := 669) C dL_law_733 (by decide) ?_
      refine v_lv (lv' := [(0, .ref b), (1, .ref (gad G 0)), (2, .int v2), (3, .ref aq3), (4, .int v4), (6, .int v6), (10, .int v10), (11, .int v11), (12, .int y1), (13, .int (v13 + (1 : Int32)))]) [1, 2, 3, 4, 5, 6, 7, 8, 9, 0] rfl ?_
      exact ih _ _ _ _ _ _ _ _ _ _ _ _ _ _ hkc hks hm kk
set_option maxRecDepth 100000 in
theorem w_law_S736 {G : Gx} (hi : qinj (gad G)) {X : Cx} {b L : Nat} {xs : Nat → Int32} (C : VC X cL_law 20 RL 12 436 600130 7301080) (CX : LX X b L xs) {Q : State → Prop} : ∀ (S : St) (v2 : Int32) (v4 : Int32) (v6 : Int32) (v10 : Int32) (v11 : Int32) (v12 : Int32) (aq3 : Nat) (ac3 : ClassId) (w3 : Nat → Int32) (zu : Unit) (kc : Nat) (ks : Nat), kc ≤ 600130 → ks ≤ 7301080 → m_law_S736 S v10 v11 v12 = some zu → QV G X 20 Q 782 [(0, .ref b), (1, .ref (gad G 0)), (2, .int v2), (3, .ref aq3), (4, .int v4), (6, .int v6), (10, .int v10)] [] (lw G S [(aq3, .inl (ac3, 4, .inl w3))]) (lt G [(ac3, .int)]) kc ks → QV G X 20 Q 736 [(0, .ref b), (1, .ref (gad G 0)), (2, .int v2), (3, .ref aq3), (4, .int v4), (6, .int v6), (10, .int v10), (11, .int v11), (12, .int v12)] [] (lw G S [(aq3, .inl (ac3, 4, .inl w3))]) (lt G [(ac3, .int)]) kc ks := by
  intro S v2 v4 v6 v10 v11 v12 aq3 ac3 w3 zu kc ks hkc hks hm kk
  unfold m_law_S736 at hm
  refine v_iload (pc := 736) C dL_law_736 7 rfl ?_
  refine v_if_lt (pc := 738) (tgt := 758) C dL_law_738 (by decide) (fun c1 => ?_) (fun c1 => ?_)
  · replace hm := hm_t c1 hm
    refine v_aload_n (pc := 758) C dL_law_758 rfl 1 rfl ?_
    refine v_iload (pc := 759) C dL_law_759 6 rfl ?_
    refine v_iconst (pc := 761) (v := (2 : Int32)) C dL_law_761 (by decide) ?_
    obtain ⟨r1, h1, hm⟩ := o1_some hm
    refine v_callV (pc := 762) (k := 0) (As := [.int v10, .int (2 : Int32)]) (rest := []) (T := TX8) C (by omega) (by omega) (c_Te_ofThing hi h1) (by decide) (ce_0 _ _ _) (ci := 6) rfl tw_658 tw_659 tw_660 tw_2 tw_661 (nA := 2) (by decide +kernel) rfl (by decide) (Nat.le_of_ble_eq_true rfl) rfl dL_law_762 ?_
    refine v_if_ne (pc := 765) (tgt := 782) C dL_law_765 (by decide) (fun c2 => ?_) (fun c2 => ?_)
    · replace hm := hm_f c2 hm
      cases hm
      refine v_lv (lv' := [(0, .ref b), (1, .ref (gad G 0)), (2, .int v2), (3, .ref aq3), (4, .int v4), (6, .int v6), (10, .int v10)]) [0, 1, 2, 3, 4, 5, 6] rfl ?_
      exact kk
    · replace hm := hm_t c2 hm
      refine v_iload (pc := 768) C dL_law_768 7 rfl ?_
      refine v_iload (pc := 770) C dL_law_770 8 rfl ?_
      refine v_icmp_ne (pc := 772) (tgt := 782) C dL_law_772 (by decide) (fun c3 => ?_) (fun c3 => ?_)
      · replace hm := hm_f c3 hm
        cases hm
        refine v_lv (lv' := [(0, .ref b), (1, .ref (gad G 0)), (2, .int v2), (3, .ref aq3), (4, .int v4), (6, .int v6), (10, .int v10)]) [0, 1, 2, 3, 4, 5, 6] rfl ?_
        exact kk
      · replace hm := hm_t c3 hm
        refine v_iload (pc := 775) C dL_law_775 7 rfl ?_
        refine v_if_lt (pc := 777) (tgt := 782) C dL_law_777 (by decide) (fun c4 => ?_) (fun c4 => ?_)
        · replace hm := hm_t c4 hm
          cases hm
          refine v_lv (lv' := [(0, .ref b), (1, .ref (gad G 0)), (2, .int v2), (3, .ref aq3), (4, .int v4), (6, .int v6), (10, .int v10)]) [0, 1, 2, 3, 4, 5, 6] rfl ?_
          exact kk
        · replace hm := hm_f c4 hm
          cases hm
  · replace hm := hm_f c1 hm
    refine v_iload (pc := 741) C dL_law_741 7 rfl ?_
    refine v_iload (pc := 743) C dL_law_743 8 rfl ?_
    refine v_icmp_lt (pc := 745) (tgt := 780) C dL_law_745 (by decide) (fun c5 => ?_) (fun c5 => ?_)
    · replace hm := hm_t c5 hm
      cases hm
    · replace hm := hm_f c5 hm
      refine v_iload (pc := 748) C dL_law_748 7 rfl ?_
      refine v_iload (pc := 750) C dL_law_750 8 rfl ?_
      refine v_bipush (pc := 752) (v := (6 : Int32)) C dL_law_752 (by decide) ?_
      refine v_iadd (pc := 754) C dL_law_754 ?_
      refine v_icmp_gt (pc := 755) (tgt := 780) C dL_law_755 (by decide) (fun c6 => ?_) (fun c6 => ?_)
      · replace hm := hm_t c6 hm
        cases hm
      · replace hm := hm_f c6 hm
        refine v_aload_n (pc := 758) C dL_law_758 rfl 1 rfl ?_
        refine v_iload (pc := 759) C dL_law_759 6 rfl ?_
        refine v_iconst (pc := 761) (v := (2 : Int32)) C dL_law_761 (by decide) ?_
        obtain ⟨r2, h2, hm⟩ := o1_some hm
        refine v_callV (pc := 762) (k := 0) (As := [.int v10, .int (2 : Int32)]) (rest := []) (T := TX8) C (by omega) (by omega) (c_Te_ofThing hi h2) (by decide) (ce_0 _ _ _) (ci := 6) rfl tw_658 tw_659 tw_660 tw_2 tw_661 (nA := 2) (by decide +kernel) rfl (by decide) (Nat.le_of_ble_eq_true rfl) rfl dL_law_762 ?_
        refine v_if_ne (pc := 765) (tgt := 782) C dL_law_765 (by decide) (fun c7 => ?_) (fun c7 => ?_)
        · replace hm := hm_f c7 hm
          cases hm
          refine v_lv (lv' := [(0, .ref b), (1, .ref (gad G 0)), (2, .int v2), (3, .ref aq3), (4, .int v4), (6, .int v6), (10, .int v10)]) [0, 1, 2, 3, 4, 5, 6] rfl ?_
          exact kk
        · replace hm := hm_t c7 hm
          refine v_iload (pc := 768) C dL_law_768 7 rfl ?_
          refine v_iload (pc := 770) C dL_law_770 8 rfl ?_
          refine v_icmp_ne (pc := 772) (tgt := 782) C dL_law_772 (by decide) (fun c8 => ?_) (fun c8 => ?_)
          · replace hm := hm_f c8 hm
            cases hm
            refine v_lv (lv' := [(0, .ref b), (1, .ref (gad G 0)), (2, .int v2), (3, .ref aq3), (4, .int v4), (6, .int v6), (10, .int v10)]) [0, 1, 2, 3, 4, 5, 6] rfl ?_
            exact kk
          · replace hm := hm_t c8 hm
            refine v_iload (pc := 775) C dL_law_775 7 rfl ?_
            refine v_if_lt (pc := 777) (tgt := 782) C dL_law_777 (by decide) (fun c9 => ?_) (fun c9 => ?_)
            · replace hm := hm_t c9 hm
              cases hm
              refine v_lv (lv' := [(0, .ref b), (1, .ref (gad G 0)), (2, .int v2), (3, .ref aq3), (4, .int v4), (6, .int v6), (10, .int v10)]) [0, 1, 2, 3, 4, 5, 6] rfl ?_
              exact kk
            · replace hm := hm_f c9 hm
              cases hm
set_option maxRecDepth 100000 in
theorem w_law_L614 {G : Gx} (hi : qinj (gad G)) {X : Cx} {b L : Nat} {xs : Nat → Int32} (C : VC X cL_law 20 RL 12 436 600130 7301080) (CX : LX X b L xs) {Q : State → Prop} : ∀ (n : Nat) (S : St) (v2 : Int32) (v4 : Int32) (v6 : Int32) (v10 : Int32) (aq3 : Nat) (ac3 : ClassId) (w3 : Nat → Int32) (zS : St) (kc : Nat) (ks : Nat), kc ≤ 600130 → ks ≤ 7301080 → m_law_L614 n S v6 v10 = some zS → QV G X 20 Q 788 [(0, .ref b), (1, .ref (gad G 0)), (2, .int v2), (3, .ref aq3), (4, .int v4)] [] (lw G zS [(aq3, .inl (ac3, 4, .inl w3))]) (lt G [(ac3, .int)]) kc ks → QV G X 20 Q 614 [(0, .ref b), (1, .ref (gad G 0)), (2, .int v2), (3, .ref aq3), (4, .int v4), (6, .int v6), (10, .int v10)] [] (lw G S [(aq3, .inl (ac3, 4, .inl w3))]) (lt G [(ac3, .int)]) kc ks := by
  intro n
  induction n with
  | zero =>
    intro S v2 v4 v6 v10 aq3 ac3 w3 zS kc ks hkc hks hm kk
    rw [m_law_L614] at hm
    cases hm
  | succ n ih =>
    intro S v2 v4 v6 v10 aq3 ac3 w3 zS kc ks hkc hks hm kk
    rw [m_law_L614] at hm
    refine v_iload (pc := 614) C dL_law_614 6 rfl ?_
    refine v_iload (pc := 616) C dL_law_616 5 rfl ?_
    refine v_icmp_ge (pc := 618) (tgt := 788) C dL_law_618 (by decide) (fun c1 => ?_) (fun c1 => ?_)
    · replace hm := hm_t c1 hm
      simp only [Option.some.injEq, Prod.mk.injEq] at hm
      subst hm
      refine v_lv (lv' := [(0, .ref b), (1, .ref (gad G 0)), (2, .int v2), (3, .ref aq3), (4, .int v4)]) [0, 1, 2, 3, 4] rfl ?_
      exact kk
    · replace hm := hm_f c1 hm
      refine v_aload_n (pc := 621) C dL_law_621 rfl 1 rfl ?_
      refine v_iload (pc := 622) C dL_law_622 6 rfl ?_
      refine v_iconst (pc := 624) (v := (3 : Int32)) C dL_law_624 (by decide) ?_
      obtain ⟨r1, h1, hm⟩ := o1_some hm
      refine v_callV (pc := 625) (k := 0) (As := [.int v10, .int (3 : Int32)]) (rest := []) (T := TX8) C (by omega) (by omega) (c_Te_kept hi h1) (by decide) (ce_0 _ _ _) (ci := 6) rfl tw_759 tw_760 tw_761 tw_2 tw_762 (nA := 2) (by decide +kernel) rfl (by decide) (Nat.le_of_ble_eq_true rfl) rfl dL_law_625 ?_
      refine v_istore (pc := 628) (lv' := [(11, .int r1), (0, .ref b), (1, .ref (gad G 0)), (2, .int v2), (3, .ref aq3), (4, .int v4), (6, .int v6), (10, .int v10)]) C dL_law_628 (by decide) rfl ?_
      refine v_lv (lv' := [(0, .ref b), (1, .ref (gad G 0)), (2, .int v2), (3, .ref aq3), (4, .int v4), (6, .int v6), (10, .int v10), (11, .int r1)]) [1, 2, 3, 4, 5, 6, 7, 0] rfl ?_
      obtain ⟨S1, h2, hm⟩ := o1_some hm
      refine w_law_S630 hi C CX _ _ _ _ _ _ _ _ _ _ _ _ (by omega) (by omega) h2 ?_
      refine v_iconst (pc := 663) (v := (0 : Int32)) C dL_law_663 (by decide) ?_
      refine v_istore (pc := 664) (lv' := [(12, .int (0 : Int32)), (0, .ref b), (1, .ref (gad G 0)), (2, .int v2), (3, .ref aq3), (4, .int v4), (6, .int v6), (10, .int v10), (11, .int r1)]) C dL_law_664 (by decide) rfl ?_
      refine v_iconst (pc := 666) (v := (0 : Int32)) C dL_law_666 (by decide) ?_
      refine v_istore (pc := 667) (lv' := [(13, .int (0 : Int32)), (12, .int (0 : Int32)), (0, .ref b), (1, .ref (gad G 0)), (2, .int v2), (3, .ref aq3), (4, .int v4), (6, .int v6), (10, .int v10), (11, .int r1)]) C dL_law_667 (by decide) rfl ?_
      refine v_lv (lv' := [(0, .ref b), (1, .ref (gad G 0)), (2, .int v2), (3, .ref aq3), (4, .int v4), (6, .int v6), (10, .int v10), (11, .int r1), (12, .int (0 : Int32)), (13, .int (0 : Int32))]) [2, 3, 4, 5, 6, 7, 8, 9, 1, 0] rfl ?_
      obtain ⟨y1, h3, hm⟩ := o1_some hm
      refine w_law_L669 hi C CX 200 _ _ _ _ _ _ _ _ _ _ _ _ _ _ (by omega) (by omega) h3 ?_
      refine v_lv (lv' := [(0, .ref b), (1, .ref (gad G 0)), (2, .int v2), (3, .ref aq3), (4, .int v4), (6, .int v6), (10, .int v10), (11, .int r1), (12, .int y1)]) [0, 1, 2, 3, 4, 5, 6, 7, 8] rfl ?_
      obtain ⟨u1, h4, hm⟩ := o1_some hm
      refine w_law_S736 hi C CX _ _ _ _ _ _ _ _ _ _ _ _ _ (by omega) (by omega) h4 ?_
      refine v_iinc (pc := 782) (k := 6) (v := (v10 + (1 : Int32))) (lv' := [(10, .int (v10 + (1 : Int32))), (0, .ref b), (1, .ref (gad G 0)), (2, .int v2), (3, .ref aq3), (4, .int v4), (6, .int v6)]) C dL_law_782 rfl rfl (by decide) rfl ?_
      refine v_goto (pc := 785) (tgt := 614) C dL_law_785 (by decide) ?_
      refine v_lv (lv' := [(0, .ref b), (1, .ref (gad G 0)), (2, .int v2), (3, .ref aq3), (4, .int v4), (6, .int v6), (10, .int (v10 + (1 : Int32)))]) [1, 2, 3, 4, 5, 6, 0] rfl ?_
      exact ih _ _ _ _ _ _ _ _ _ _ _ hkc hks hm kk
set_option maxRecDepth 100000 in
theorem w_law_L41 {G : Gx} (hi : qinj (gad G)) {X : Cx} {b L : Nat} {xs : Nat → Int32} (C : VC X cL_law 20 RL 12 436 600130 7301080) (CX : LX X b L xs) {Q : State → Prop} : ∀ (n : Nat) (S : St) (v2 : Int32) (v4 : Int32) (aq3 : Nat) (ac3 : ClassId) (w3 : Nat → Int32) (zS : St) (kc : Nat) (ks : Nat), kc + 10 * n ≤ 600130 → ks + 1600 * n ≤ 7301080 → m_law_L41 xs L n S v2 v4 w3 = some zS → QV G X 20 Q 794 [(1, .ref (gad G 0))] [] (lw G zS []) (lt G []) (kc + 10 * n) (ks + 1600 * n) → QV G X 20 Q 41 [(0, .ref b), (1, .ref (gad G 0)), (2, .int v2), (3, .ref aq3), (4, .int v4)] [] (lw G S [(aq3, .inl (ac3, 4, .inl w3))]) (lt G [(ac3, .int)]) kc ks := by
  intro n
  induction n with
  | zero =>
    intro S v2 v4 aq3 ac3 w3 zS kc ks hkc hks hm kk
    rw [m_law_L41] at hm
    cases hm
  | succ n ih =>
    intro S v2 v4 aq3 ac3 w3 zS kc ks hkc hks hm kk
    rw [m_law_L41] at hm
    refine v_iload (pc := 41) C dL_law_41 4 rfl ?_
    refine v_bipush (pc := 43) (v := (40 : Int32)) C dL_law_43 (by decide) ?_
    refine v_icmp_ge (pc := 45) (tgt := 794) C dL_law_45 (by decide) (fun c1 => ?_) (fun c1 => ?_)
    · replace hm := hm_t c1 hm
      simp only [Option.some.injEq, Prod.mk.injEq] at hm
      subst hm
      refine v_lv (lv' := [(1, .ref (gad G 0))]) [1] rfl ?_
      refine v_ex (ex' := []) (et' := []) [] (by decide) rfl rfl ?_
      refine v_widen (kc' := kc + 10 * (n + 1)) (ks' := ks + 1600 * (n + 1)) (by omega) (by omega) ?_
      exact kk
    · replace hm := hm_f c1 hm
      refine v_aload_n (pc := 48) C dL_law_48 rfl 0 rfl ?_
      refine v_iload (pc := 49) C dL_law_49 4 rfl ?_
      refine v_bipush (pc := 51) (v := (16 : Int32)) C dL_law_51 (by decide) ?_
      refine v_irem (pc := 53) C dL_law_53 (by decide) ?_
      obtain ⟨r1, h1, hm⟩ := o1_some hm
      refine v_cell (pc := 54) (k := (v4 - v4 / (16 : Int32) * (16 : Int32))) (rest := []) C CX (by omega) (by omega) h1 tw_99 (by decide) (Nat.le_of_ble_eq_true rfl) rfl dL_law_54 ?_
      refine v_iload (pc := 57) C dL_law_57 4 rfl ?_
      refine v_bipush (pc := 59) (v := (16 : Int32)) C dL_law_59 (by decide) ?_
      refine v_idiv (pc := 61) C dL_law_61 (by decide) ?_
      refine v_iconst (pc := 62) (v := (2 : Int32)) C dL_law_62 (by decide) ?_
      refine v_imul (pc := 63) C dL_law_63 ?_
      refine v_ishr (pc := 64) C dL_law_64 ?_
      refine v_iconst (pc := 65) (v := (5 : Int32)) C dL_law_65 (by decide) ?_
      refine v_iload (pc := 66) C dL_law_66 4 rfl ?_
      refine v_imul (pc := 68) C dL_law_68 ?_
      refine v_iadd (pc := 69) C dL_law_69 ?_
      refine v_istore (pc := 70) (lv' := [(5, .int ((r1 >>> (((v4 / (16 : Int32)) * (2 : Int32)) &&& 31)) + ((5 : Int32) * v4))), (0, .ref b), (1, .ref (gad G 0)), (2, .int v2), (3, .ref aq3), (4, .int v4)]) C dL_law_70 (by decide) rfl ?_
      refine v_aload_n (pc := 72) C dL_law_72 rfl 2 rfl ?_
      obtain ⟨r2, h2, hm⟩ := o1_some hm
      refine v_callV (pc := 73) (k := 0) (As := []) (rest := []) (T := TX8) C (by omega) (by omega) (c_Te_things hi h2) (by decide) (ce_0 _ _ _) (ci := 6) rfl tw_188 tw_189 tw_190 tw_2 tw_191 (nA := 0) (by decide +kernel) rfl (by decide) (Nat.le_of_ble_eq_true rfl) rfl dL_law_73 ?_
      refine v_istore (pc := 76) (lv' := [(6, .int r2), (5, .int ((r1 >>> (((v4 / (16 : Int32)) * (2 : Int32)) &&& 31)) + ((5 : Int32) * v4))), (0, .ref b), (1, .ref (gad G 0)), (2, .int v2), (3, .ref aq3), (4, .int v4)]) C dL_law_76 (by decide) rfl ?_
      refine v_lv (lv' := [(0, .ref b), (1, .ref (gad G 0)), (2, .int v2), (3, .ref aq3), (4, .int v4), (5, .int ((r1 >>> (((v4 / (16 : Int32)) * (2 : Int32)) &&& 31)) + ((5 : Int32) * v4))), (6, .int r2)]) [2, 3, 4, 5, 6, 1, 0] rfl ?_
      obtain ⟨y1, h3, hm⟩ := o1_some hm
      refine w_law_S78 hi C CX _ _ _ _ _ _ _ _ _ _ _ (by omega) (by omega) h3 ?_
      refine v_lv (lv' := [(0, .ref b), (1, .ref (gad G 0)), (2, .int v2), (3, .ref aq3), (4, .int v4), (5, .int ((r1 >>> (((v4 / (16 : Int32)) * (2 : Int32)) &&& 31)) + ((5 : Int32) * v4))), (6, .int r2), (7, .int y1)]) [0, 1, 2, 3, 4, 5, 6, 7] rfl ?_
      obtain ⟨y2, h4, hm⟩ := o1_some hm
      refine w_law_S98 hi C CX _ _ _ _ _ _ _ _ _ _ _ _ (by omega) (by omega) h4 ?_
      refine v_iload (pc := 118) C dL_law_118 5 rfl ?_
      refine v_bipush (pc := 120) (v := (8 : Int32)) C dL_law_120 (by decide) ?_
      obtain ⟨r3, h5, hm⟩ := o1_some hm
      refine v_callS (pc := 122) (As := [.int ((r1 >>> (((v4 / (16 : Int32)) * (2 : Int32)) &&& 31)) + ((5 : Int32) * v4)), .int (8 : Int32)]) (rest := []) C (by omega) (by omega) (c_Law_below hi h5) tw_104 tw_105 tw_101 tw_106 (nA := 2) (by decide +kernel) rfl (by decide) (Nat.le_of_ble_eq_true rfl) rfl dL_law_122 ?_
      refine v_istore (pc := 125) (lv' := [(9, .int r3), (0, .ref b), (1, .ref (gad G 0)), (2, .int v2), (3, .ref aq3), (4, .int v4), (5, .int ((r1 >>> (((v4 / (16 : Int32)) * (2 : Int32)) &&& 31)) + ((5 : Int32) * v4))), (6, .int r2), (7, .int y1), (8, .int y2)]) C dL_law_125 (by decide) rfl ?_
      refine v_lv (lv' := [(0, .ref b), (1, .ref (gad G 0)), (2, .int v2), (3, .ref aq3), (4, .int v4), (5, .int ((r1 >>> (((v4 / (16 : Int32)) * (2 : Int32)) &&& 31)) + ((5 : Int32) * v4))), (6, .int r2), (7, .int y1), (8, .int y2), (9, .int r3)]) [1, 2, 3, 4, 5, 6, 7, 8, 9, 0] rfl ?_
      obtain ⟨S1, h6, hm⟩ := o1_some hm
      refine w_law_S127 hi C CX _ _ _ _ _ _ _ _ _ _ _ _ _ _ (by omega) (by omega) h6 ?_
      refine v_lv (lv' := [(0, .ref b), (1, .ref (gad G 0)), (2, .int v2), (3, .ref aq3), (4, .int v4), (5, .int ((r1 >>> (((v4 / (16 : Int32)) * (2 : Int32)) &&& 31)) + ((5 : Int32) * v4)))]) [0, 1, 2, 3, 4, 5] rfl ?_
      obtain ⟨S2, h7, hm⟩ := o1_some hm
      refine w_law_S264 hi C CX _ _ _ _ _ _ _ _ _ _ (by omega) (by omega) h7 ?_
      refine v_aload_n (pc := 292) C dL_law_292 rfl 1 rfl ?_
      obtain ⟨r4, h8, hm⟩ := o1_some hm
      refine v_callV (pc := 293) (k := 0) (As := []) (rest := []) (T := TX8) C (by omega) (by omega) (c_Te_things hi h8) (by decide) (ce_0 _ _ _) (ci := 6) rfl tw_188 tw_189 tw_190 tw_2 tw_191 (nA := 0) (by decide +kernel) rfl (by decide) (Nat.le_of_ble_eq_true rfl) rfl dL_law_293 ?_
      refine v_istore (pc := 296) (lv' := [(6, .int r4), (0, .ref b), (1, .ref (gad G 0)), (2, .int v2), (3, .ref aq3), (4, .int v4), (5, .int ((r1 >>> (((v4 / (16 : Int32)) * (2 : Int32)) &&& 31)) + ((5 : Int32) * v4)))]) C dL_law_296 (by decide) rfl ?_
      refine v_iconst (pc := 298) (v := (0 : Int32)) C dL_law_298 (by decide) ?_
      refine v_istore (pc := 299) (lv' := [(10, .int (0 : Int32)), (6, .int r4), (0, .ref b), (1, .ref (gad G 0)), (2, .int v2), (3, .ref aq3), (4, .int v4), (5, .int ((r1 >>> (((v4 / (16 : Int32)) * (2 : Int32)) &&& 31)) + ((5 : Int32) * v4)))]) C dL_law_299 (by decide) rfl ?_
      refine v_lv (lv' := [(0, .ref b), (1, .ref (gad G 0)), (2, .int v2), (3, .ref aq3), (4, .int v4), (5, .int ((r1 >>> (((v4 / (16 : Int32)) * (2 : Int32)) &&& 31)) + ((5 : Int32) * v4))), (6, .int r4), (10, .int (0 : Int32))]) [2, 3, 4, 5, 6, 7, 1, 0] rfl ?_
      obtain ⟨g1, S3, h9, hm⟩ := ob_some hm
      refine w_law_L301 hi C CX 10 _ _ _ _ _ _ _ _ _ _ _ kc ks (by omega) (by omega) h9 ?_
      refine v_iconst (pc := 611) (v := (0 : Int32)) C dL_law_611 (by decide) ?_
      refine v_istore (pc := 612) (lv' := [(10, .int (0 : Int32)), (0, .ref b), (1, .ref (gad G 0)), (2, .int v2), (3, .ref aq3), (4, .int v4), (6, .int r4)]) C dL_law_612 (by decide) rfl ?_
      refine v_lv (lv' := [(0, .ref b), (1, .ref (gad G 0)), (2, .int v2), (3, .ref aq3), (4, .int v4), (6, .int r4), (10, .int (0 : Int32))]) [1, 2, 3, 4, 5, 6, 0] rfl ?_
      obtain ⟨S4, h10, hm⟩ := o1_some hm
      refine w_law_L614 hi C CX 200 _ _ _ _ _ _ _ _ _ _ _ (by omega) (by omega) h10 ?_
      refine v_iinc (pc := 788) (k := 4) (v := (v4 + (1 : Int32))) (lv' := [(4, .int (v4 + (1 : Int32))), (0, .ref b), (1, .ref (gad G 0)), (2, .int v2), (3, .ref aq3)]) C dL_law_788 rfl rfl (by decide) rfl ?_
      refine v_goto (pc := 791) (tgt := 41) C dL_law_791 (by decide) ?_
      refine v_lv (lv' := [(0, .ref b), (1, .ref (gad G 0)), (2, .int v2), (3, .ref aq3), (4, .int (v4 + (1 : Int32)))]) [1, 2, 3, 4, 0] rfl ?_
      exact ih _ _ _ _ _ _ _ (kc + 1 * 10) (ks + 160 * 10) (by omega) (by omega) hm (by rw [show (kc + 1 * 10) + 10 * n = kc + 10 * (n + 1) by omega, show (ks + 160 * 10) + 1600 * n = ks + 1600 * (n + 1) by omega]; exact kk)
set_option maxRecDepth 100000 in
theorem w_law_L813 {G : Gx} (hi : qinj (gad G)) {X : Cx} {b L : Nat} {xs : Nat → Int32} (C : VC X cL_law 20 RL 12 436 600130 7301080) (CX : LX X b L xs) {Q : State → Prop} : ∀ (n : Nat) (S : St) (v4 : Int64) (v8 : Int32) (aq6 : Nat) (ac6 : ClassId) (w6 : Nat → Int32) (aq7 : Nat) (ac7 : ClassId) (w7 : Nat → Int32) (z6 : (Nat → Int32)) (z7 : (Nat → Int32)) (zS : St) (kc : Nat) (ks : Nat), kc ≤ 600130 → ks ≤ 7301080 → m_law_L813 n S v8 w6 w7 = some (z6, z7, zS) → QV G X 20 Q 847 [(1, .ref (gad G 0)), (4, .long v4), (6, .ref aq6), (7, .ref aq7)] [] (lw G zS [(aq6, .inl (ac6, 4, .inl z6)), (aq7, .inl (ac7, 4, .inl z7))]) (lt G [(ac6, .int), (ac7, .int)]) kc ks → QV G X 20 Q 813 [(1, .ref (gad G 0)), (4, .long v4), (6, .ref aq6), (7, .ref aq7), (8, .int v8)] [] (lw G S [(aq6, .inl (ac6, 4, .inl w6)), (aq7, .inl (ac7, 4, .inl w7))]) (lt G [(ac6, .int), (ac7, .int)]) kc ks := by
  intro n
  induction n with
  | zero =>
    intro S v4 v8 aq6 ac6 w6 aq7 ac7 w7 z6 z7 zS kc ks hkc hks hm kk
    rw [m_law_L813] at hm
    cases hm
  | succ n ih =>
    intro S v4 v8 aq6 ac6 w6 aq7 ac7 w7 z6 z7 zS kc ks hkc hks hm kk
    rw [m_law_L813] at hm
    refine v_iload (pc := 813) C dL_law_813 4 rfl ?_
    refine v_iconst (pc := 815) (v := (4 : Int32)) C dL_law_815 (by decide) ?_
    refine v_icmp_ge (pc := 816) (tgt := 847) C dL_law_816 (by decide) (fun c1 => ?_) (fun c1 => ?_)
    · replace hm := hm_t c1 hm
      simp only [Option.some.injEq, Prod.mk.injEq] at hm
      obtain ⟨rfl, rfl, rfl⟩ := hm
      refine v_lv (lv' := [(1, .ref (gad G 0)), (4, .long v4), (6, .ref aq6), (7, .ref aq7)]) [0, 1, 2, 3] rfl ?_
      exact kk
    · replace hm := hm_f c1 hm
      refine v_aload (pc := 819) C dL_law_819 2 rfl ?_
      refine v_iload (pc := 821) C dL_law_821 4 rfl ?_
      refine v_aload_n (pc := 823) C dL_law_823 rfl 0 rfl ?_
      refine v_iload (pc := 824) C dL_law_824 4 rfl ?_
      obtain ⟨r1, S1, h1, hm⟩ := ob_some hm
      refine v_callV (pc := 826) (k := 0) (As := [.int v8]) (rest := [.int v8, .ref aq6]) (T := TX8) C (by omega) (by omega) (c_Te_wouldGo hi h1) (by decide) (ce_0 _ _ _) (ci := 6) rfl tw_868 tw_799 tw_800 tw_2 tw_801 (nA := 1) (by decide +kernel) rfl (by decide) (Nat.le_of_ble_eq_true rfl) rfl dL_law_826 ?_
      obtain ⟨b1, hm⟩ := oi_some hm
      refine v_iast (pc := 829) (p := 59) (t0 := 42) (w' := lw G S1 [(aq6, .inl (ac6, 4, .inl (upd w6 v8.toNatClampNeg r1))), (aq7, .inl (ac7, 4, .inl w7))]) C (lw_ex 0 rfl) (lt_ex 0 rfl) b1 (lw_set 0 rfl) dL_law_829 ?_
      refine v_aload (pc := 830) C dL_law_830 3 rfl ?_
      refine v_iload (pc := 832) C dL_law_832 4 rfl ?_
      refine v_aload_n (pc := 834) C dL_law_834 rfl 0 rfl ?_
      refine v_iload (pc := 835) C dL_law_835 4 rfl ?_
      obtain ⟨r2, S2, h2, hm⟩ := ob_some hm
      refine v_callV (pc := 837) (k := 0) (As := [.int v8]) (rest := [.int v8, .ref aq7]) (T := TX8) C (by omega) (by omega) (c_Te_wouldWork hi h2) (by decide) (ce_0 _ _ _) (ci := 6) rfl tw_869 tw_832 tw_833 tw_2 tw_834 (nA := 1) (by decide +kernel) rfl (by decide) (Nat.le_of_ble_eq_true rfl) rfl dL_law_837 ?_
      obtain ⟨b2, hm⟩ := oi_some hm
      refine v_iast (pc := 840) (p := 60) (t0 := 43) (w' := lw G S2 [(aq6, .inl (ac6, 4, .inl (upd w6 v8.toNatClampNeg r1))), (aq7, .inl (ac7, 4, .inl (upd w7 v8.toNatClampNeg r2)))]) C (lw_ex 1 rfl) (lt_ex 1 rfl) b2 (lw_set 1 rfl) dL_law_840 ?_
      refine v_iinc (pc := 841) (k := 4) (v := (v8 + (1 : Int32))) (lv' := [(8, .int (v8 + (1 : Int32))), (1, .ref (gad G 0)), (4, .long v4), (6, .ref aq6), (7, .ref aq7)]) C dL_law_841 rfl rfl (by decide) rfl ?_
      refine v_goto (pc := 844) (tgt := 813) C dL_law_844 (by decide) ?_
      refine v_lv (lv' := [(1, .ref (gad G 0)), (4, .long v4), (6, .ref aq6), (7, .ref aq7), (8, .int (v8 + (1 : Int32)))]) [1, 2, 3, 4, 0] rfl ?_
      exact ih _ _ _ _ _ _ _ _ _ _ _ _ _ _ hkc hks hm kk
set_option maxRecDepth 100000 in
theorem w_law_S928 {G : Gx} (hi : qinj (gad G)) {X : Cx} {b L : Nat} {xs : Nat → Int32} (C : VC X cL_law 20 RL 12 436 600130 7301080) (CX : LX X b L xs) {Q : State → Prop} : ∀ (S : St) (v8 : Int32) (v9 : Int32) (aq6 : Nat) (ac6 : ClassId) (w6 : Nat → Int32) (aq7 : Nat) (ac7 : ClassId) (w7 : Nat → Int32) (zS : St) (kc : Nat) (ks : Nat), kc ≤ 600130 → ks ≤ 7301080 → m_law_S928 S v8 v9 w6 = some zS → QV G X 20 Q 980 [(1, .ref (gad G 0)), (6, .ref aq6), (7, .ref aq7), (8, .int v8)] [] (lw G zS [(aq6, .inl (ac6, 4, .inl w6)), (aq7, .inl (ac7, 4, .inl w7))]) (lt G [(ac6, .int), (ac7, .int)]) kc ks → QV G X 20 Q 928 [(1, .ref (gad G 0)), (6, .ref aq6), (7, .ref aq7), (8, .int v8), (9, .int v9)] [] (lw G S [(aq6, .inl (ac6, 4, .inl w6)), (aq7, .inl (ac7, 4, .inl w7))]) (lt G [(ac6, .int), (ac7, .int)]) kc ks := by
  intro S v8 v9 aq6 ac6 w6 aq7 ac7 w7 zS kc ks hkc hks hm kk
  unfold m_law_S928 at hm
  refine v_iload (pc := 928) C dL_law_928 3 rfl ?_
  refine v_iconst (pc := 930) (v := (2 : Int32)) C dL_law_930 (by decide) ?_
  refine v_icmp_ge (pc := 931) (tgt := 944) C dL_law_931 (by decide) (fun c1 => ?_) (fun c1 => ?_)
  · replace hm := hm_t c1 hm
    refine v_aload_n (pc := 944) C dL_law_944 rfl 0 rfl ?_
    refine v_iload (pc := 945) C dL_law_945 3 rfl ?_
    refine v_iconst (pc := 947) (v := (2 : Int32)) C dL_law_947 (by decide) ?_
    obtain ⟨r1, S1, h1, hm⟩ := ob_some hm
    refine v_callV (pc := 948) (k := 0) (As := [.int v8, .int (2 : Int32)]) (rest := []) (T := TX8) C (by omega) (by omega) (c_Te_told hi h1) (by decide) (ce_0 _ _ _) (ci := 6) rfl tw_709 tw_710 tw_711 tw_2 tw_712 (nA := 2) (by decide +kernel) rfl (by decide) (Nat.le_of_ble_eq_true rfl) rfl dL_law_948 ?_
    refine v_aload_n (pc := 951) C dL_law_951 rfl 0 rfl ?_
    refine v_iload (pc := 952) C dL_law_952 3 rfl ?_
    refine v_bipush (pc := 954) (v := (7 : Int32)) C dL_law_954 (by decide) ?_
    obtain ⟨r2, S2, h2, hm⟩ := ob_some hm
    refine v_callV (pc := 956) (k := 0) (As := [.int v8, .int (7 : Int32)]) (rest := [.int r1]) (T := TX8) C (by omega) (by omega) (c_Te_told hi h2) (by decide) (ce_0 _ _ _) (ci := 6) rfl tw_709 tw_710 tw_711 tw_2 tw_712 (nA := 2) (by decide +kernel) rfl (by decide) (Nat.le_of_ble_eq_true rfl) rfl dL_law_956 ?_
    refine v_iconst (pc := 959) (v := (1 : Int32)) C dL_law_959 (by decide) ?_
    refine v_icmp_ne (pc := 960) (tgt := 967) C dL_law_960 (by decide) (fun c2 => ?_) (fun c2 => ?_)
    · replace hm := hm_f c2 hm
      refine v_iload (pc := 967) C dL_law_967 4 rfl ?_
      refine v_aload (pc := 969) C dL_law_969 1 rfl ?_
      refine v_iload (pc := 971) C dL_law_971 3 rfl ?_
      obtain ⟨b1, hm⟩ := oi_some hm
      refine v_iald (pc := 973) (p := 59) (t0 := 42) C (lw_ex 0 rfl) (lt_ex 0 rfl) b1 dL_law_973 ?_
      refine v_isub (pc := 974) C dL_law_974 ?_
      refine v_icmp_eq (pc := 975) (tgt := 980) C dL_law_975 (by decide) (fun c3 => ?_) (fun c3 => ?_)
      · replace hm := hm_t c3 hm
        simp only [Option.some.injEq, Prod.mk.injEq] at hm
        subst hm
        refine v_lv (lv' := [(1, .ref (gad G 0)), (6, .ref aq6), (7, .ref aq7), (8, .int v8)]) [0, 1, 2, 3] rfl ?_
        exact kk
      · replace hm := hm_f c3 hm
        cases hm
    · replace hm := hm_t c2 hm
      refine v_iconst (pc := 963) (v := (0 : Int32)) C dL_law_963 (by decide) ?_
      refine v_goto (pc := 964) (tgt := 975) C dL_law_964 (by decide) ?_
      refine v_icmp_eq (pc := 975) (tgt := 980) C dL_law_975 (by decide) (fun c4 => ?_) (fun c4 => ?_)
      · replace hm := hm_t c4 hm
        simp only [Option.some.injEq, Prod.mk.injEq] at hm
        subst hm
        refine v_lv (lv' := [(1, .ref (gad G 0)), (6, .ref aq6), (7, .ref aq7), (8, .int v8)]) [0, 1, 2, 3] rfl ?_
        exact kk
      · replace hm := hm_f c4 hm
        cases hm
  · replace hm := hm_f c1 hm
    refine v_aload_n (pc := 934) C dL_law_934 rfl 0 rfl ?_
    refine v_iload (pc := 935) C dL_law_935 3 rfl ?_
    refine v_iconst (pc := 937) (v := (2 : Int32)) C dL_law_937 (by decide) ?_
    obtain ⟨r3, S3, h3, hm⟩ := ob_some hm
    refine v_callV (pc := 938) (k := 0) (As := [.int v8, .int (2 : Int32)]) (rest := []) (T := TX8) C (by omega) (by omega) (c_Te_told hi h3) (by decide) (ce_0 _ _ _) (ci := 6) rfl tw_709 tw_710 tw_711 tw_2 tw_712 (nA := 2) (by decide +kernel) rfl (by decide) (Nat.le_of_ble_eq_true rfl) rfl dL_law_938 ?_
    refine v_if_ne (pc := 941) (tgt := 978) C dL_law_941 (by decide) (fun c5 => ?_) (fun c5 => ?_)
    · replace hm := hm_f c5 hm
      cases hm
    · replace hm := hm_t c5 hm
      refine v_aload_n (pc := 944) C dL_law_944 rfl 0 rfl ?_
      refine v_iload (pc := 945) C dL_law_945 3 rfl ?_
      refine v_iconst (pc := 947) (v := (2 : Int32)) C dL_law_947 (by decide) ?_
      obtain ⟨r4, S4, h4, hm⟩ := ob_some hm
      refine v_callV (pc := 948) (k := 0) (As := [.int v8, .int (2 : Int32)]) (rest := []) (T := TX8) C (by omega) (by omega) (c_Te_told hi h4) (by decide) (ce_0 _ _ _) (ci := 6) rfl tw_709 tw_710 tw_711 tw_2 tw_712 (nA := 2) (by decide +kernel) rfl (by decide) (Nat.le_of_ble_eq_true rfl) rfl dL_law_948 ?_
      refine v_aload_n (pc := 951) C dL_law_951 rfl 0 rfl ?_
      refine v_iload (pc := 952) C dL_law_952 3 rfl ?_
      refine v_bipush (pc := 954) (v := (7 : Int32)) C dL_law_954 (by decide) ?_
      obtain ⟨r5, S5, h5, hm⟩ := ob_some hm
      refine v_callV (pc := 956) (k := 0) (As := [.int v8, .int (7 : Int32)]) (rest := [.int r4]) (T := TX8) C (by omega) (by omega) (c_Te_told hi h5) (by decide) (ce_0 _ _ _) (ci := 6) rfl tw_709 tw_710 tw_711 tw_2 tw_712 (nA := 2) (by decide +kernel) rfl (by decide) (Nat.le_of_ble_eq_true rfl) rfl dL_law_956 ?_
      refine v_iconst (pc := 959) (v := (1 : Int32)) C dL_law_959 (by decide) ?_
      refine v_icmp_ne (pc := 960) (tgt := 967) C dL_law_960 (by decide) (fun c6 => ?_) (fun c6 => ?_)
      · replace hm := hm_f c6 hm
        refine v_iload (pc := 967) C dL_law_967 4 rfl ?_
        refine v_aload (pc := 969) C dL_law_969 1 rfl ?_
        refine v_iload (pc := 971) C dL_law_971 3 rfl ?_
        obtain ⟨b2, hm⟩ := oi_some hm
        refine v_iald (pc := 973) (p := 59) (t0 := 42) C (lw_ex 0 rfl) (lt_ex 0 rfl) b2 dL_law_973 ?_
        refine v_isub (pc := 974) C dL_law_974 ?_
        refine v_icmp_eq (pc := 975) (tgt := 980) C dL_law_975 (by decide) (fun c7 => ?_) (fun c7 => ?_)
        · replace hm := hm_t c7 hm
          simp only [Option.some.injEq, Prod.mk.injEq] at hm
          subst hm
          refine v_lv (lv' := [(1, .ref (gad G 0)), (6, .ref aq6), (7, .ref aq7), (8, .int v8)]) [0, 1, 2, 3] rfl ?_
          exact kk
        · replace hm := hm_f c7 hm
          cases hm
      · replace hm := hm_t c6 hm
        refine v_iconst (pc := 963) (v := (0 : Int32)) C dL_law_963 (by decide) ?_
        refine v_goto (pc := 964) (tgt := 975) C dL_law_964 (by decide) ?_
        refine v_icmp_eq (pc := 975) (tgt := 980) C dL_law_975 (by decide) (fun c8 => ?_) (fun c8 => ?_)
        · replace hm := hm_t c8 hm
          simp only [Option.some.injEq, Prod.mk.injEq] at hm
          subst hm
          refine v_lv (lv' := [(1, .ref (gad G 0)), (6, .ref aq6), (7, .ref aq7), (8, .int v8)]) [0, 1, 2, 3] rfl ?_
          exact kk
        · replace hm := hm_f c8 hm
          cases hm
set_option maxRecDepth 100000 in
theorem w_law_L862 {G : Gx} (hi : qinj (gad G)) {X : Cx} {b L : Nat} {xs : Nat → Int32} (C : VC X cL_law 20 RL 12 436 600130 7301080) (CX : LX X b L xs) {Q : State → Prop} : ∀ (n : Nat) (S : St) (v8 : Int32) (aq6 : Nat) (ac6 : ClassId) (w6 : Nat → Int32) (aq7 : Nat) (ac7 : ClassId) (w7 : Nat → Int32) (zS : St) (kc : Nat) (ks : Nat), kc ≤ 600130 → ks ≤ 7301080 → m_law_L862 n S v8 w6 w7 = some zS → QV G X 20 Q 986 [(1, .ref (gad G 0))] [] (lw G zS []) (lt G []) kc ks → QV G X 20 Q 862 [(1, .ref (gad G 0)), (6, .ref aq6), (7, .ref aq7), (8, .int v8)] [] (lw G S [(aq6, .inl (ac6, 4, .inl w6)), (aq7, .inl (ac7, 4, .inl w7))]) (lt G [(ac6, .int), (ac7, .int)]) kc ks := by
  intro n
  induction n with
  | zero =>
    intro S v8 aq6 ac6 w6 aq7 ac7 w7 zS kc ks hkc hks hm kk
    rw [m_law_L862] at hm
    cases hm
  | succ n ih =>
    intro S v8 aq6 ac6 w6 aq7 ac7 w7 zS kc ks hkc hks hm kk
    rw [m_law_L862] at hm
    refine v_iload (pc := 862) C dL_law_862 3 rfl ?_
    refine v_iconst (pc := 864) (v := (4 : Int32)) C dL_law_864 (by decide) ?_
    refine v_icmp_ge (pc := 865) (tgt := 986) C dL_law_865 (by decide) (fun c1 => ?_) (fun c1 => ?_)
    · replace hm := hm_t c1 hm
      simp only [Option.some.injEq, Prod.mk.injEq] at hm
      subst hm
      refine v_lv (lv' := [(1, .ref (gad G 0))]) [0] rfl ?_
      refine v_ex (ex' := []) (et' := []) [] (by decide) rfl rfl ?_
      exact kk
    · replace hm := hm_f c1 hm
      refine v_aload_n (pc := 868) C dL_law_868 rfl 0 rfl ?_
      refine v_iload (pc := 869) C dL_law_869 3 rfl ?_
      refine v_iconst (pc := 871) (v := (2 : Int32)) C dL_law_871 (by decide) ?_
      obtain ⟨r1, S1, h1, hm⟩ := ob_some hm
      refine v_callV (pc := 872) (k := 0) (As := [.int v8, .int (2 : Int32)]) (rest := []) (T := TX8) C (by omega) (by omega) (c_Te_told hi h1) (by decide) (ce_0 _ _ _) (ci := 6) rfl tw_709 tw_710 tw_711 tw_2 tw_712 (nA := 2) (by decide +kernel) rfl (by decide) (Nat.le_of_ble_eq_true rfl) rfl dL_law_872 ?_
      refine v_istore (pc := 875) (lv' := [(9, .int r1), (1, .ref (gad G 0)), (6, .ref aq6), (7, .ref aq7), (8, .int v8)]) C dL_law_875 (by decide) rfl ?_
      refine v_aload_n (pc := 877) C dL_law_877 rfl 1 rfl ?_
      refine v_iload (pc := 878) C dL_law_878 4 rfl ?_
      refine v_iconst (pc := 880) (v := (3 : Int32)) C dL_law_880 (by decide) ?_
      obtain ⟨r2, S2, h2, hm⟩ := ob_some hm
      refine v_callV (pc := 881) (k := 0) (As := [.int v8, .int (3 : Int32)]) (rest := []) (T := TX8) C (by omega) (by omega) (c_Te_told hi h2) (by decide) (ce_0 _ _ _) (ci := 6) rfl tw_709 tw_710 tw_711 tw_2 tw_712 (nA := 2) (by decide +kernel) rfl (by decide) (Nat.le_of_ble_eq_true rfl) rfl dL_law_881 ?_
      refine v_istore (pc := 884) (lv' := [(10, .int r2), (9, .int r1), (1, .ref (gad G 0)), (6, .ref aq6), (7, .ref aq7), (8, .int v8)]) C dL_law_884 (by decide) rfl ?_
      refine v_aload_n (pc := 886) C dL_law_886 rfl 2 rfl ?_
      refine v_iload (pc := 887) C dL_law_887 5 rfl ?_
      obtain ⟨r3, S3, h3, hm⟩ := ob_some hm
      refine v_callV (pc := 889) (k := 0) (As := [.int v8]) (rest := []) (T := TX8) C (by omega) (by omega) (c_Te_collect hi h3) (by decide) (ce_0 _ _ _) (ci := 6) rfl tw_870 tw_871 tw_872 tw_2 tw_873 (nA := 1) (by decide +kernel) rfl (by decide) (Nat.le_of_ble_eq_true rfl) rfl dL_law_889 ?_
      refine v_aload (pc := 892) C dL_law_892 3 rfl ?_
      refine v_iload (pc := 894) C dL_law_894 5 rfl ?_
      obtain ⟨b1, hm⟩ := oi_some hm
      refine v_iald (pc := 896) (p := 59) (t0 := 42) C (lw_ex 0 rfl) (lt_ex 0 rfl) b1 dL_law_896 ?_
      refine v_icmp_ne (pc := 897) (tgt := 978) C dL_law_897 (by decide) (fun c2 => ?_) (fun c2 => ?_)
      · replace hm := hm_f c2 hm
        cases hm
      · replace hm := hm_t c2 hm
        refine v_aload_n (pc := 900) C dL_law_900 rfl 2 rfl ?_
        refine v_iload (pc := 901) C dL_law_901 5 rfl ?_
        refine v_iconst (pc := 903) (v := (3 : Int32)) C dL_law_903 (by decide) ?_
        obtain ⟨r4, S4, h4, hm⟩ := ob_some hm
        refine v_callV (pc := 904) (k := 0) (As := [.int v8, .int (3 : Int32)]) (rest := []) (T := TX8) C (by omega) (by omega) (c_Te_told hi h4) (by decide) (ce_0 _ _ _) (ci := 6) rfl tw_709 tw_710 tw_711 tw_2 tw_712 (nA := 2) (by decide +kernel) rfl (by decide) (Nat.le_of_ble_eq_true rfl) rfl dL_law_904 ?_
        refine v_iload (pc := 907) C dL_law_907 0 rfl ?_
        refine v_aload (pc := 909) C dL_law_909 4 rfl ?_
        refine v_iload (pc := 911) C dL_law_911 5 rfl ?_
        obtain ⟨b2, hm⟩ := oi_some hm
        refine v_iald (pc := 913) (p := 60) (t0 := 43) C (lw_ex 1 rfl) (lt_ex 1 rfl) b2 dL_law_913 ?_
        refine v_iadd (pc := 914) C dL_law_914 ?_
        refine v_icmp_ne (pc := 915) (tgt := 978) C dL_law_915 (by decide) (fun c3 => ?_) (fun c3 => ?_)
        · replace hm := hm_f c3 hm
          cases hm
        · replace hm := hm_t c3 hm
          refine v_aload (pc := 918) C dL_law_918 3 rfl ?_
          refine v_iload (pc := 920) C dL_law_920 5 rfl ?_
          obtain ⟨b3, hm⟩ := oi_some hm
          refine v_iald (pc := 922) (p := 59) (t0 := 42) C (lw_ex 0 rfl) (lt_ex 0 rfl) b3 dL_law_922 ?_
          refine v_iload (pc := 923) C dL_law_923 1 rfl ?_
          refine v_icmp_gt (pc := 925) (tgt := 978) C dL_law_925 (by decide) (fun c4 => ?_) (fun c4 => ?_)
          · replace hm := hm_t c4 hm
            cases hm
          · replace hm := hm_f c4 hm
            refine v_lv (lv' := [(1, .ref (gad G 0)), (6, .ref aq6), (7, .ref aq7), (8, .int v8), (9, .int r1)]) [2, 3, 4, 5, 1] rfl ?_
            obtain ⟨S5, h5, hm⟩ := o1_some hm
            refine w_law_S928 hi C CX _ _ _ _ _ _ _ _ _ _ _ _ (by omega) (by omega) h5 ?_
            refine v_iinc (pc := 980) (k := 3) (v := (v8 + (1 : Int32))) (lv' := [(8, .int (v8 + (1 : Int32))), (1, .ref (gad G 0)), (6, .ref aq6), (7, .ref aq7)]) C dL_law_980 rfl rfl (by decide) rfl ?_
            refine v_goto (pc := 983) (tgt := 862) C dL_law_983 (by decide) ?_
            refine v_lv (lv' := [(1, .ref (gad G 0)), (6, .ref aq6), (7, .ref aq7), (8, .int (v8 + (1 : Int32)))]) [1, 2, 3, 0] rfl ?_
            exact ih _ _ _ _ _ _ _ _ _ _ _ hkc hks hm kk
set_option maxRecDepth 100000 in
theorem w_law {G : Gx} (hi : qinj (gad G)) {X : Cx} {b L : Nat} {xs : Nat → Int32} (C : VC X cL_law 20 RL 12 436 600130 7301080) (CX : LX X b L xs) {Q : State → Prop} (hend : ∀ lv w ty, QV G X 20 Q 1008 lv [.int 1] w ty 600130 7301080) (S : St) (kc ks : Nat) (hkc : kc + 600 ≤ 600130) (hks : ks + 90000 ≤ 7301080) (hm : m_law xs L S = some ()) : QV G X 20 Q 8 [(1, .ref (gad G 0)), (0, .ref b)] [] (lw G S []) (lt G []) kc ks := by
  unfold m_law at hm
  refine v_bipush (pc := 8) (v := (40 : Int32)) C dL_law_8 (by decide) ?_
  refine v_aload_n (pc := 10) C dL_law_10 rfl 1 rfl ?_
  refine v_iconst (pc := 11) (v := (0 : Int32)) C dL_law_11 (by decide) ?_
  obtain ⟨r1, h1, hm⟩ := o1_some hm
  refine v_cell (pc := 12) (k := (0 : Int32)) (rest := [.int (40 : Int32)]) C CX (by omega) (by omega) h1 tw_99 (by decide) (Nat.le_of_ble_eq_true rfl) rfl dL_law_12 ?_
  refine v_bipush (pc := 15) (v := (60 : Int32)) C dL_law_15 (by decide) ?_
  obtain ⟨r2, h2, hm⟩ := o1_some hm
  refine v_callS (pc := 17) (As := [.int r1, .int (60 : Int32)]) (rest := [.int (40 : Int32)]) C (by omega) (by omega) (c_Law_below hi h2) tw_104 tw_105 tw_101 tw_106 (nA := 2) (by decide +kernel) rfl (by decide) (Nat.le_of_ble_eq_true rfl) rfl dL_law_17 ?_
  refine v_iadd (pc := 20) C dL_law_20 ?_
  refine v_istore_n (pc := 21) (lv' := [(2, .int ((40 : Int32) + r2)), (1, .ref (gad G 0)), (0, .ref b)]) C dL_law_21 rfl (by decide) rfl ?_
  refine v_aload_n (pc := 22) C dL_law_22 rfl 1 rfl ?_
  refine v_iload_n (pc := 23) C dL_law_23 rfl 0 rfl ?_
  obtain ⟨r3, S1, h3, hm⟩ := ob_some hm
  refine v_callV (pc := 24) (k := 0) (As := [.int ((40 : Int32) + r2)]) (rest := []) (T := TX8) C (by omega) (by omega) (c_Te_begin hi h3) (by decide) (ce_0 _ _ _) (ci := 6) rfl tw_108 tw_109 tw_110 tw_2 tw_111 (nA := 1) (by decide +kernel) rfl (by decide) (Nat.le_of_ble_eq_true rfl) rfl dL_law_24 ?_
  refine v_bipush (pc := 27) (v := (64 : Int32)) C dL_law_27 (by decide) ?_
  refine v_icmp_eq (pc := 29) (tgt := 34) C dL_law_29 (by decide) (fun c1 => ?_) (fun c1 => ?_)
  · replace hm := hm_t c1 hm
    refine v_iconst (pc := 34) (v := (4 : Int32)) C dL_law_34 (by decide) ?_
    refine v_newI (pc := 35) (N' := 4) C tw_3 (by decide) (by decide) (by decide) (by omega) (by omega) dL_law_35 (fun qn1 cn1 => ?_)
    refine v_widen (kc' := (kc + 1)) (ks' := (ks + 4)) (by omega) (by omega) ?_
    refine v_eq (w' := lw G S1 [(qn1, .inl (cn1, 4, .inl (fun _ => (0 : Int32))))]) (ty' := lt G [(cn1, .int)]) (by simp [lw]) (by simp [lt]) ?_
    refine v_astore_n (pc := 37) (lv' := [(3, .ref qn1), (2, .int ((40 : Int32) + r2)), (1, .ref (gad G 0)), (0, .ref b)]) C dL_law_37 rfl (by decide) rfl ?_
    refine v_iconst (pc := 38) (v := (0 : Int32)) C dL_law_38 (by decide) ?_
    refine v_istore (pc := 39) (lv' := [(4, .int (0 : Int32)), (3, .ref qn1), (2, .int ((40 : Int32) + r2)), (1, .ref (gad G 0)), (0, .ref b)]) C dL_law_39 (by decide) rfl ?_
    refine v_lv (lv' := [(0, .ref b), (1, .ref (gad G 0)), (2, .int ((40 : Int32) + r2)), (3, .ref qn1), (4, .int (0 : Int32))]) [4, 3, 2, 1, 0] rfl ?_
    obtain ⟨S2, h4, hm⟩ := o1_some hm
    refine w_law_L41 hi C CX 50 _ _ _ _ _ _ _ (kc + 1) (ks + 4) (by omega) (by omega) h4 ?_
    refine v_aload_n (pc := 794) C dL_law_794 rfl 0 rfl ?_
    obtain ⟨r4, S3, h5, hm⟩ := ob_some hm
    refine v_callV (pc := 795) (k := 0) (As := []) (rest := []) (T := TX8) C (by omega) (by omega) (c_Te_digest hi h5) (by decide) (ce_0 _ _ _) (ci := 6) rfl tw_782 tw_783 tw_784 tw_2 tw_785 (nA := 0) (by decide +kernel) rfl (by decide) (Nat.le_of_ble_eq_true rfl) rfl dL_law_795 ?_
    refine v_lstore (pc := 798) (lv' := [(4, .long r4), (1, .ref (gad G 0))]) C dL_law_798 (by decide) rfl ?_
    refine v_iconst (pc := 800) (v := (4 : Int32)) C dL_law_800 (by decide) ?_
    refine v_newI (pc := 801) (N' := 4) C tw_3 (by decide) (by decide) (by decide) (by omega) (by omega) dL_law_801 (fun qn2 cn2 => ?_)
    refine v_widen (kc' := (((kc + 1) + 10 * 50) + 1)) (ks' := (((ks + 4) + 1600 * 50) + 4)) (by omega) (by omega) ?_
    refine v_eq (w' := lw G S3 [(qn2, .inl (cn2, 4, .inl (fun _ => (0 : Int32))))]) (ty' := lt G [(cn2, .int)]) (by simp [lw]) (by simp [lt]) ?_
    refine v_astore (pc := 803) (lv' := [(6, .ref qn2), (4, .long r4), (1, .ref (gad G 0))]) C dL_law_803 (by decide) rfl ?_
    refine v_iconst (pc := 805) (v := (4 : Int32)) C dL_law_805 (by decide) ?_
    refine v_newI (pc := 806) (N' := 4) C tw_3 (by decide) (by decide) (by decide) (by omega) (by omega) dL_law_806 (fun qn3 cn3 => ?_)
    refine v_widen (kc' := ((((kc + 1) + 10 * 50) + 1) + 1)) (ks' := ((((ks + 4) + 1600 * 50) + 4) + 4)) (by omega) (by omega) ?_
    refine v_eq (w' := lw G S3 [(qn2, .inl (cn2, 4, .inl (fun _ => (0 : Int32)))), (qn3, .inl (cn3, 4, .inl (fun _ => (0 : Int32))))]) (ty' := lt G [(cn2, .int), (cn3, .int)]) (by simp [lw]) (by simp [lt]) ?_
    refine v_astore (pc := 808) (lv' := [(7, .ref qn3), (6, .ref qn2), (4, .long r4), (1, .ref (gad G 0))]) C dL_law_808 (by decide) rfl ?_
    refine v_iconst (pc := 810) (v := (0 : Int32)) C dL_law_810 (by decide) ?_
    refine v_istore (pc := 811) (lv' := [(8, .int (0 : Int32)), (7, .ref qn3), (6, .ref qn2), (4, .long r4), (1, .ref (gad G 0))]) C dL_law_811 (by decide) rfl ?_
    refine v_lv (lv' := [(1, .ref (gad G 0)), (4, .long r4), (6, .ref qn2), (7, .ref qn3), (8, .int (0 : Int32))]) [4, 3, 2, 1, 0] rfl ?_
    obtain ⟨g1, g2, S4, h6, hm⟩ := oc_some hm
    refine w_law_L813 hi C CX 200 _ _ _ _ _ _ _ _ _ _ _ _ _ _ (by omega) (by omega) h6 ?_
    refine v_aload_n (pc := 847) C dL_law_847 rfl 0 rfl ?_
    obtain ⟨r5, S5, h7, hm⟩ := ob_some hm
    refine v_callV (pc := 848) (k := 0) (As := []) (rest := []) (T := TX8) C (by omega) (by omega) (c_Te_digest hi h7) (by decide) (ce_0 _ _ _) (ci := 6) rfl tw_782 tw_783 tw_784 tw_2 tw_785 (nA := 0) (by decide +kernel) rfl (by decide) (Nat.le_of_ble_eq_true rfl) rfl dL_law_848 ?_
    refine v_lload (pc := 851) C dL_law_851 1 rfl ?_
    refine v_lcmp (pc := 853) C dL_law_853 ?_
    refine v_if_eq (pc := 854) (tgt := 859) C dL_law_854 (by decide) (fun c2 => ?_) (fun c2 => ?_)
    · replace hm := hm_t c2 hm
      refine v_iconst (pc := 859) (v := (0 : Int32)) C dL_law_859 (by decide) ?_
      refine v_istore (pc := 860) (lv' := [(8, .int (0 : Int32)), (1, .ref (gad G 0)), (4, .long r4), (6, .ref qn2), (7, .ref qn3)]) C dL_law_860 (by decide) rfl ?_
      refine v_lv (lv' := [(1, .ref (gad G 0)), (6, .ref qn2), (7, .ref qn3), (8, .int (0 : Int32))]) [1, 3, 4, 0] rfl ?_
      obtain ⟨S6, h8, hm⟩ := o1_some hm
      refine w_law_L862 hi C CX 200 _ _ _ _ _ _ _ _ _ _ _ (by omega) (by omega) h8 ?_
      refine v_aload_n (pc := 986) C dL_law_986 rfl 0 rfl ?_
      refine v_iconst (pc := 987) (v := (2 : Int32)) C dL_law_987 (by decide) ?_
      obtain ⟨r6, S7, h9, hm⟩ := ob_some hm
      refine v_callV (pc := 988) (k := 0) (As := [.int (2 : Int32)]) (rest := []) (T := TX8) C (by omega) (by omega) (c_Te_collect hi h9) (by decide) (ce_0 _ _ _) (ci := 6) rfl tw_870 tw_871 tw_872 tw_2 tw_873 (nA := 1) (by decide +kernel) rfl (by decide) (Nat.le_of_ble_eq_true rfl) rfl dL_law_988 ?_
      refine v_if_lt (pc := 991) (tgt := 1007) C dL_law_991 (by decide) (fun c3 => ?_) (fun c3 => ?_)
      · replace hm := hm_t c3 hm
        cases hm
      · replace hm := hm_f c3 hm
        refine v_aload_n (pc := 994) C dL_law_994 rfl 0 rfl ?_
        refine v_iconst (pc := 995) (v := (2 : Int32)) C dL_law_995 (by decide) ?_
        refine v_iconst (pc := 996) (v := (2 : Int32)) C dL_law_996 (by decide) ?_
        obtain ⟨r7, S8, h10, hm⟩ := ob_some hm
        refine v_callV (pc := 997) (k := 0) (As := [.int (2 : Int32), .int (2 : Int32)]) (rest := []) (T := TX8) C (by omega) (by omega) (c_Te_told hi h10) (by decide) (ce_0 _ _ _) (ci := 6) rfl tw_709 tw_710 tw_711 tw_2 tw_712 (nA := 2) (by decide +kernel) rfl (by decide) (Nat.le_of_ble_eq_true rfl) rfl dL_law_997 ?_
        refine v_if_ne (pc := 1000) (tgt := 1007) C dL_law_1000 (by decide) (fun c4 => ?_) (fun c4 => ?_)
        · replace hm := hm_f c4 hm
          cases hm
        · replace hm := hm_t c4 hm
          refine v_iconst (pc := 1003) (v := (1 : Int32)) C dL_law_1003 (by decide) ?_
          refine v_goto (pc := 1004) (tgt := 1008) C dL_law_1004 (by decide) ?_
          cases hm
          refine v_widen (kc' := 600130) (ks' := 7301080) (by omega) (by omega) ?_
          exact hend _ _ _
    · replace hm := hm_f c2 hm
      cases hm
  · replace hm := hm_f c1 hm
    cases hm
