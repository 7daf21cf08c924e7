/-! store 2: its invariant -/
def MEq (S T : St) : Prop := GEq S T ∧ (∀ j, T 32 j = S 32 j) ∧ (∀ j, T 35 j = S 35 j) ∧ (∀ j, T 37 j = S 37 j) ∧ (∀ j, T 38 j = S 38 j) ∧ T 36 2 = S 36 2 ∧ T 31 10 = S 31 10 ∧ T 31 14 = S 31 14
theorem MEq.of {S T : St} {P : Nat → Nat → Prop} (F : Fr P S T) (hP : ∀ a j, P a j → (a = 1 → j ≠ 6) ∧ a ≠ 2 ∧ a ≠ 3 ∧ a ≠ 4 ∧ a ≠ 32 ∧ a ≠ 35 ∧ a ≠ 37 ∧ a ≠ 38 ∧ (a = 36 → j ≠ 2) ∧ (a = 31 → j ≠ 10 ∧ j ≠ 14)) : MEq S T :=
  ⟨GEq.of F (fun a j q => by have := hP a j q; omega), fun j => F _ _ (fun q => by have := hP _ _ q; omega), fun j => F _ _ (fun q => by have := hP _ _ q; omega), fun j => F _ _ (fun q => by have := hP _ _ q; omega),
   fun j => F _ _ (fun q => by have := hP _ _ q; omega), F _ _ (fun q => by have := hP _ _ q; omega), F _ _ (fun q => by have := hP _ _ q; omega), F _ _ (fun q => by have := hP _ _ q; omega)⟩
theorem MEq.hb {S T : St} (h : MEq S T) (t : Nat) : hB T 31 t = hB S 31 t := hB_eq h.2.1 t
theorem MEq.cl {S T : St} (h : MEq S T) (t : Nat) : clO T (some t) = clO S (some t) := by rw [clO_s, clO_s, h.hb, h.1.c, h.2.2.1]
theorem MEq.row {S T : St} (h : MEq S T) {R : List Nat} (hR : RowIs S 36 R) : RowIs T 36 R := hR.of h.2.2.2.2.2.1 h.2.2.2.1 h.2.2.2.2.1
theorem WC.eq {S T : St} {w : Nat → Bool} (h : WC S w) (e : MEq S T) : WC T w := fun t ht => by rw [e.cl]; exact h t ht
theorem F0is.eq {S T : St} {w : Nat → Bool} {F0 : List Nat} (h : F0is S w F0) (e : MEq S T) : F0is T w F0 := by
  refine ⟨fun q => ?_, fun q => ?_⟩
  · rw [rtw_eq e.1]; exact h.1 (e.2.2.2.2.2.2.1 ▸ q)
  · obtain ⟨R, i, a, b, c, d⟩ := h.2 (e.2.2.2.2.2.2.1 ▸ q)
    exact ⟨R, i, e.row a, e.2.2.2.2.2.2.2.trans b, c, d⟩
def MaQ (S : St) (R : List Nat) (i : Nat) (E1 : Nat → Prop) (E2 : Nat → Nat → Prop) : Prop :=
  RowIs S 36 R ∧ S 31 14 = nI i ∧ i ≤ R.length ∧ (∀ t ∈ R, t < cN S ∧ hB S 31 t = true ∧ S 35 t ≠ 0) ∧ (∀ t, t < cN S → hB S 31 t = true → S 35 t = 0 ∨ S 35 t = 2 ∨ t ∈ R.drop i) ∧
  (∀ r t, r < 6 → rtO S r = some t → hB S 31 t = true → ¬ E1 t → S 35 t ≠ 0) ∧ ∀ t, t < cN S → hB S 31 t = true → S 35 t = 2 → ∀ u, some u ∈ kids S t → hB S 31 u = true → ¬ E2 t u → S 35 u ≠ 0
theorem MaQ.eq {S T : St} {R : List Nat} {i : Nat} {E1 : Nat → Prop} {E2 : Nat → Nat → Prop} (h : MaQ S R i E1 E2) (e : MEq S T) : MaQ T R i E1 E2 := by
  obtain ⟨a, b, c, d, f, g, k⟩ := h
  refine ⟨e.row a, e.2.2.2.2.2.2.2.trans b, c, fun t ht => ?_, fun t ht hh => ?_, fun r t hr h1 h2 h3 => ?_, fun t ht hh h2 u hu hb hE => ?_⟩
  · rw [e.1.c, e.hb, e.2.2.1]; exact d t ht
  · rw [e.2.2.1]; rw [e.1.c] at ht; rw [e.hb] at hh; exact f t ht hh
  · rw [e.2.2.1]; rw [e.1.r] at h1; rw [e.hb] at h2; exact g r t hr h1 h2 h3
  · rw [e.2.2.1]; rw [e.1.c] at ht; rw [e.hb] at hh hb; rw [e.2.2.1] at h2; rw [kids_eq e.1] at hu; exact k t ht hh h2 u hu hb hE
def nE1 : Nat → Prop := fun _ => False
def nE2 : Nat → Nat → Prop := fun _ _ => False
def MaG (S : St) : Prop := RH S 31 ∧ (S 31 10 = 0 → ∀ t, t < cN S → hB S 31 t = true → S 35 t = 0) ∧ (S 31 10 ≠ 0 → ∃ R i, MaQ S R i nE1 nE2)
theorem MaG.eq {S T : St} (h : MaG S) (e : MEq S T) : MaG T := by
  refine ⟨fun t ht => ?_, fun q t ht hh => ?_, fun q => ?_⟩
  · rw [e.hb]; rw [rcL_eq e.1] at ht; exact h.1 t ht
  · rw [e.2.2.1]; rw [e.1.c] at ht; rw [e.hb] at hh; exact h.2.1 (e.2.2.2.2.2.2.1 ▸ q) t ht hh
  · obtain ⟨R, i, z⟩ := h.2.2 (e.2.2.2.2.2.2.1 ▸ q)
    exact ⟨R, i, z.eq e⟩
def wc (S : St) : Nat → Bool := fun t => decide (clO S (some t) = 0)
theorem WC_wc (S : St) : WC S (wc S) := fun t _ => by unfold wc; rw [decide_eq_true_iff]
def fN' (a j : Nat) : Prop := fM a j ∨ fSw a j
theorem geq_N {S T : St} (F : Fr fN' S T) : GEq S T := GEq.of F (fun a j q => by unfold fN' fM fG rowP fSw at q; omega)
theorem MaQ.MR {S : St} {R : List Nat} {i : Nat} {E1 : Nat → Prop} {E2 : Nat → Nat → Prop} {w : Nat → Bool} (h : MaQ S R i E1 E2) (hW : WC S w) (h10 : S 31 10 ≠ 0) : MR S w R i := by
  obtain ⟨a, b, c, d, -⟩ := h
  refine ⟨a, b, c, fun t ht => ?_, fun t ht => ⟨(d t ht).1, (d t ht).2.1⟩, h10⟩
  rw [hW t ht]
  refine ⟨fun z => ⟨z, fun q => (d t q).2.2 (clO_0.mp ((hW t ht).mpr z)).2.2⟩, fun z => z.1⟩
theorem s_begin {S : St} {w : Nat → Bool} (hG : GW S) (hW : WC S w) (hwh : ∀ t, t < cN S → hB S 31 t = true → S 35 t = 0) :
    ∃ T, m_Mar_beginToMark S = some T ∧ Fr (fun a j => (a = 31 ∧ (j = 10 ∨ j = 14)) ∨ fG a j) S T ∧ MR T w (addsL [] (rtw S w)) 0 ∧ MaQ T (addsL [] (rtw S w)) 0 nE1 nE2 := by
  obtain ⟨T1, e1, F1, R1⟩ := s_empty 36 (u2 S 31 10 1)
  have F2 : Fr (fun a j => (a = 31 ∧ (j = 10 ∨ j = 14)) ∨ fG a j) S (u2 T1 31 14 0) := (((Fr.u2 _ _ _ _).mono (fun a j q => by omega)).tr (F1.mono (fun a j q => by unfold fG; exact Or.inr (Or.inr q)))).tr ((Fr.u2 _ _ _ _).mono (fun a j q => by omega))
  have g2 : GEq S (u2 T1 31 14 0) := GEq.of F2 (fun a j q => by unfold fG rowP at q; omega)
  have k35 : ∀ t, (u2 T1 31 14 0) 35 t = S 35 t := fun t => by rw [u2_n (by omega), F1 35 t (by unfold rowP; omega), u2_n (by omega)]
  have kb : ∀ t, hB (u2 T1 31 14 0) 31 t = hB S 31 t := fun t => hB_eq (fun j => F2 _ _ (by unfold fG rowP; omega)) t
  have hW2 : WH (u2 T1 31 14 0) w [] := fun t ht => by
    rw [clO_0, kb, g2.c, k35, ← clO_0, hW t ht]
    exact ⟨fun z => ⟨z, List.not_mem_nil⟩, fun z => z.1⟩
  obtain ⟨T, e, F, R, W, C⟩ := s_bgR (w := w) 200 0 _ [] (hG.eq g2) (R1.of (by rw [u2_n (by omega)]) (fun j => by rw [u2_n (by omega)]) (fun j => by rw [u2_n (by omega)])) hW2 (by omega) (by omega)
  rw [rtsF_eq g2] at R W C
  have gT := g2.trans (geq_G F)
  have bT : ∀ t, hB T 31 t = hB S 31 t := fun t => (hB_G F t).trans (kb t)
  have z10 : T 31 10 ≠ 0 := by rw [F 31 10 (by unfold fG rowP; omega), u2_n (by omega), F1 31 10 (by unfold rowP; omega), u2_e]; decide
  have z14 : T 31 14 = nI 0 := by rw [F 31 14 (by unfold fG rowP; omega), u2_e]; rfl
  have C' : ∀ t, t < 80 → T 35 t = if t ∈ addsL [] (rtw S w) then 1 else S 35 t := fun t ht => by
    rw [C t ht, k35]
    by_cases q : t ∈ addsL [] (rtw S w)
    · rw [if_pos ⟨q, List.not_mem_nil⟩, if_pos q]
    · rw [if_neg (fun z => q z.1), if_neg q]
  have hmem : ∀ t ∈ addsL [] (rtw S w), t < cN S ∧ hB S 31 t = true := fun t ht => by
    have h1 := (mem_addsL.mp ht).resolve_left List.not_mem_nil
    obtain ⟨⟨r, h2, h3⟩, h4⟩ := mem_rtw.mp h1
    have := clO_0.mp ((hW t (hG.b_rt h2 t h3)).mpr h4)
    exact ⟨this.2.1, this.1⟩
  unfold m_Mar_beginToMark
  rw [o1_e e1, o1_e (show m_Mar_beginToMark_L19 200 _ 0 = some T from e)]
  have h80 := hG.2.1
  refine ⟨T, rfl, F2.tr (F.mono (fun a j q => Or.inr q)), ⟨R, z14, Nat.zero_le _, W, fun t ht => ?_, z10⟩, R, z14, Nat.zero_le _, fun t ht => ?_, fun t ht hh => ?_, fun r t hr h1 h2 _ => ?_, fun t ht hh h2 => ?_⟩
  · rw [gT.c, bT]; exact hmem t ht
  · rw [gT.c, bT]
    refine ⟨(hmem t ht).1, (hmem t ht).2, ?_⟩
    rw [C' t (by have := (hmem t ht).1; omega), if_pos ht]; decide
  · rw [gT.c] at ht; rw [bT] at hh
    rw [C' t (by omega)]
    by_cases q : t ∈ addsL [] (rtw S w)
    · exact Or.inr (Or.inr q)
    · rw [if_neg q]; exact Or.inl (hwh t ht hh)
  · rw [gT.r] at h1; rw [bT] at h2
    have ht := (hG.2.2.2 r hr).2 t h1
    have hw := (hW t (by omega)).mp (clO_0.mpr ⟨h2, ht, hwh t ht h2⟩)
    rw [C' t (by omega), if_pos (mem_addsL.mpr (Or.inr (mem_rtw.mpr ⟨⟨r, hr, h1⟩, hw⟩)))]; decide
  · rw [gT.c] at ht; rw [bT] at hh
    rw [C' t (by omega), hwh t ht hh] at h2
    exfalso
    split at h2
    · exact absurd h2 (by decide)
    · exact absurd h2 (by decide)
theorem s_maStep {S : St} {W : Nat} (hG : GW S) (hM : MaG S) (h10 : S 31 10 ≠ 0) (hW : S 31 3 = nI W) :
    ∃ T, m_Mar_step S = some T ∧ Fr fN' S T ∧ MaG T ∧ (∀ t, hB T 31 t = true → hB S 31 t = true) ∧ ∃ W', T 31 3 = nI W' ∧ W ≤ W' ∧ W' ≤ W + 80 := by
  have h80 := hG.2.1
  obtain ⟨R, i, hQ⟩ := hM.2.2 h10
  have hMR := hQ.MR (WC_wc S) h10
  obtain ⟨qR, q14, qi, qm, qc, qr, qk⟩ := hQ
  have hlen := qR.len
  by_cases hl : i < R.length
  · obtain ⟨x, hx⟩ : ∃ x, R[i]? = some x := ⟨R[i], List.getElem?_eq_getElem hl⟩
    have hxR := List.mem_of_getElem? hx
    have hxc := (qm x hxR).1
    obtain ⟨T, e, F, hM2, t3, C⟩ := s_mstep hG hMR hx hW
    have g := geq_M F
    have bT := hB_M F
    obtain ⟨M, eM⟩ := addsL_pre (l := wk S (wc S) x) R
    have z10 : T 31 10 ≠ 0 := hM2.2.2.2.2.2
    have nz : ∀ t, t < 80 → S 35 t ≠ 0 → T 35 t ≠ 0 := fun t ht h => by
      rw [C t ht]
      split
      · decide
      · split
        · decide
        · exact h
    have inM : ∀ t, t ∈ addsL R (wk S (wc S) x) → t ∉ R → t ∈ (addsL R (wk S (wc S) x)).drop (i + 1) := fun t h1 h2 => by
      rw [eM] at h1 ⊢
      rw [List.drop_append_of_le_length (by omega)]
      exact List.mem_append_right _ ((List.mem_append.mp h1).resolve_left h2)
    have inR : ∀ t, t ∈ R.drop (i + 1) → t ∈ (addsL R (wk S (wc S) x)).drop (i + 1) := fun t h1 => by
      rw [eM, List.drop_append_of_le_length (by omega)]
      exact List.mem_append_left _ h1
    refine ⟨T, e, F.mono (fun a j q => Or.inl q), ⟨fun t ht => ?_, fun q => absurd q z10, fun _ => ⟨_, i + 1, hM2.1, hM2.2.1, hM2.2.2.1, fun t ht => ?_, fun t ht hh => ?_, fun r t hr h1 h2 h3 => ?_, fun t ht hh h2 u hu hb _ => ?_⟩⟩, fun t ht => (bT t) ▸ ht, _, t3, by omega, by have := wN_le hG hxc; omega⟩
    · rw [bT]; rw [rcL_eq g] at ht; exact hM.1 t ht
    · obtain ⟨a, b⟩ := hM2.2.2.2.2.1 t ht
      refine ⟨a, b, ?_⟩
      have ht8 : t < 80 := by rw [g.c] at a; omega
      by_cases q : t ∈ R
      · exact nz t ht8 (qm t q).2.2
      · rw [C t ht8, if_pos ⟨ht, q⟩]; decide
    · rw [g.c] at ht; rw [bT] at hh
      rw [C t (by omega)]
      by_cases q : t ∈ addsL R (wk S (wc S) x) ∧ t ∉ R
      · exact Or.inr (Or.inr (inM t q.1 q.2))
      · rw [if_neg q]
        by_cases q2 : t = x
        · rw [if_pos q2]; exact Or.inr (Or.inl rfl)
        · rw [if_neg q2]
          rcases qc t ht hh with z | z | z
          · exact Or.inl z
          · exact Or.inr (Or.inl z)
          · rw [drop_cons hx] at z
            exact Or.inr (Or.inr (inR t ((List.mem_cons.mp z).resolve_left q2)))
    · rw [g.r] at h1; rw [bT] at h2
      exact nz t (hG.b_rt hr t h1) (qr r t hr h1 h2 h3)
    · rw [g.c] at ht; rw [bT] at hh hb; rw [kids_eq g] at hu
      have hu8 : u < 80 := Nat.lt_of_lt_of_le (kids_lt hG hu) h80
      by_cases h35 : S 35 u = 0
      · rw [C t (by omega)] at h2
        by_cases q : t ∈ addsL R (wk S (wc S) x) ∧ t ∉ R
        · rw [if_pos q] at h2; exact absurd h2 (by decide)
        · rw [if_neg q] at h2
          by_cases q2 : t = x
          · subst q2
            have hw : wc S u = true := ((WC_wc S) u hu8).mp (clO_0.mpr ⟨hb, kids_lt hG hu, h35⟩)
            rw [C u hu8, if_pos ⟨mem_addsL.mpr (Or.inr (mem_wk.mpr ⟨hu, hw⟩)), fun z => (qm u z).2.2 h35⟩]; decide
          · rw [if_neg q2] at h2
            exact absurd h35 (qk t ht hh h2 u hu hb (fun z => z))
      · exact nz u hu8 h35
  · obtain ⟨T, e, F, k1, k2, k3, k4⟩ := s_sweep hG hW
    have g := geq_Sw F
    have hsum : sm (had1 S 31) (cN S) ≤ 80 := by
      have := sm_le (f := had1 S 31) (c := 1) (n := cN S) (fun i _ => by unfold had1; split <;> omega)
      omega
    have black : ∀ t ∈ rcL S, t ∈ rcL S ∧ S 35 t = 2 := by
      have two : ∀ t, t ∈ rcL S → S 35 t ≠ 0 → S 35 t = 2 := fun t ht h0 => by
        rcases qc t (rc_lt hG t ht) (hM.1 t ht) with z | z | z
        · exact absurd z h0
        · exact z
        · rw [List.drop_of_length_le (by omega)] at z; cases z
      refine rc_min _ (fun r t hr h1 => ?_) (fun t ht u hu => ?_)
      · have h2 := rc_root hr h1
        exact ⟨h2, two t h2 (qr r t hr h1 (hM.1 t h2) (fun z => z))⟩
      · have h2 := rc_kid hG ht.1 hu
        exact ⟨h2, two u h2 (qk t (rc_lt hG t ht.1) (hM.1 t ht.1) ht.2 u hu (hM.1 u h2) (fun z => z))⟩
    have e1 : m_Mar_step S = some T := by
      unfold m_Mar_step
      rw [q14, qR.2.2.1, if_neg (by rw [n_lt (by omega) (by omega)]; exact hl), o1_e e]
    refine ⟨T, e1, F.mono (fun a j q => Or.inr q), ⟨fun t ht => ?_, fun _ t ht _ => ?_, fun q => absurd k1 q⟩, fun t ht => ?_, _, k2, by omega, by omega⟩
    · rw [rcL_eq g] at ht
      obtain ⟨-, h2⟩ := black t ht
      rw [(k3 t (rc_lt hG t ht)).1]
      refine ⟨hM.1 t ht, fun z => ?_⟩
      rw [(clO_0.mp z).2.2] at h2
      exact absurd h2 (by decide)
    · rw [g.c] at ht; exact (k3 t ht).2
    · by_cases hc : t < cN S
      · exact ((k3 t hc).1.mp ht).1
      · rw [k4 t (by omega)] at ht; exact ht
