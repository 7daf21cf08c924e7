/-! store 2: a new thing, a name that changes, steps -/
def MaB (S : St) (M : Nat) : Prop := S 31 2 = nI M ∧ HC S 31 ∧ PO S 31 M ∧ (S 31 6 ≠ 0 → ∀ t, t < 80 → hB S 31 t = false)
def MaI (S : St) (M : Nat) : Prop := MaB S M ∧ (S 31 6 = 0 → MaG S)
theorem PO.sub {S T : St} {k M : Nat} (hP : PO S k M) (g : GEq S T) (hb : ∀ t, t < cN S → hB T k t = true → hB S k t = true) (h2 : ∀ j, T (k + 2) j = S (k + 2) j) : PO T k M :=
  hP.tr (fun t ht hh => by rw [g.c] at ht; exact ⟨ht, hb t ht hh⟩) (fun t _ => by rw [wN_eq g]) h2
/-- on the way, while store 2 makes room -/
def MaS (S : St) (M W c : Nat) (U : St) : Prop := Fr fMa S U ∧ U 31 6 = 0 ∧ MaG U ∧ (∀ u, hB U 31 u = true → hB S 31 u = true) ∧ PO U 31 M ∧ (∀ j, U 33 j = S 33 j) ∧ ∃ W', U 31 3 = nI W' ∧ W ≤ W' ∧ W' ≤ W + c
theorem fN_Ma {a j : Nat} (h : fN' a j) : fMa a j := by unfold fN' at h; exact h.elim fM_Ma fSw_Ma
theorem s_maStepS {S U : St} {M W c : Nat} (hG : GW S) (h : MaS S M W c U) (h10 : U 31 10 ≠ 0) : ∃ T, m_Mar_step U = some T ∧ MaS S M W (c + 80) T := by
  obtain ⟨F, h6, hM, hb, hP, h33, W', hW, w1, w2⟩ := h
  have gU := geq_Ma F
  obtain ⟨T, e, F2, hM2, hb2, W2, a, b, c2⟩ := s_maStep (hG.eq gU) hM h10 hW
  have g2 := geq_N F2
  refine ⟨T, e, F.tr (F2.mono (fun a j => fN_Ma)), (F2 31 6 (by unfold fN' fM fG rowP fSw; omega)).trans h6, hM2, fun u hu => hb u (hb2 u hu), hP.sub g2 (fun t _ => hb2 t) (fun j => F2 _ _ (by unfold fN' fM fG rowP fSw; omega)), fun j => (F2 33 j (by unfold fN' fM fG rowP fSw; omega)).trans (h33 j), W2, a, by omega, by omega⟩
theorem s_maL32 {S : St} {M W : Nat} (hG : GW S) : ∀ (n j c : Nat) (U : St), MaS S M W c U → j ≤ 2 → 2 - j < n → ∃ T, m_Mar_workAheadOfPlacing_L32 n U (nI j) = some T ∧ MaS S M W (c + 80 * (2 - j)) T := by
  intro n
  induction n with
  | zero => intro j c U _ h1 h2; omega
  | succ n ih =>
    intro j c U h h1 h2
    have up : MaS S M W (c + 80 * (2 - j)) U := by
      obtain ⟨F, h6, hM, hb, hP, h33, W', hW, w1, w2⟩ := h
      exact ⟨F, h6, hM, hb, hP, h33, W', hW, w1, by omega⟩
    rw [m_Mar_workAheadOfPlacing_L32]
    by_cases h10 : U 31 10 = 0
    · rw [if_pos h10]; exact ⟨U, rfl, up⟩
    · rw [if_neg h10]
      by_cases hj : 2 ≤ j
      · rw [if_pos (by rw [show (2 : Int32) = nI 2 from rfl, n_le (by omega) (by omega)]; exact hj)]; exact ⟨U, rfl, up⟩
      · obtain ⟨T, e, hT⟩ := s_maStepS hG h h10
        rw [if_neg (by rw [show (2 : Int32) = nI 2 from rfl, n_le (by omega) (by omega)]; exact hj), o1_e e, nI_1]
        obtain ⟨V, e2, hV⟩ := ih (j + 1) _ T hT (by omega) (by omega)
        exact ⟨V, e2, by rw [show c + 80 * (2 - j) = c + 80 + 80 * (2 - (j + 1)) by omega]; exact hV⟩
theorem s_maBeginS {S U : St} {M W c : Nat} (hG : GW S) (h : MaS S M W c U) (h10 : U 31 10 = 0) : ∃ T, m_Mar_beginToMark U = some T ∧ MaS S M W c T := by
  obtain ⟨F, h6, hM, hb, hP, h33, W', hW, w1, w2⟩ := h
  have gU := geq_Ma F
  obtain ⟨T, e, F2, hMR, hQ⟩ := s_begin (hG.eq gU) (WC_wc U) (hM.2.1 h10)
  have g2 : GEq U T := GEq.of F2 (fun a j q => by unfold fG rowP at q; omega)
  have hb2 : ∀ t, hB T 31 t = hB U 31 t := fun t => hB_eq (fun j => F2 _ _ (by unfold fG rowP; omega)) t
  refine ⟨T, e, F.tr (F2.mono (fun a j q => by unfold fG rowP at q; unfold fMa; omega)), (F2 31 6 (by unfold fG rowP; omega)).trans h6, ⟨fun t ht => ?_, fun q => absurd q hMR.2.2.2.2.2, fun _ => ⟨_, _, hQ⟩⟩, fun u hu => hb u (hb2 u ▸ hu), hP.sub g2 (fun t _ hh => hb2 t ▸ hh) (fun j => F2 _ _ (by unfold fG rowP; omega)), fun j => (F2 33 j (by unfold fG rowP; omega)).trans (h33 j), W', (F2 31 3 (by unfold fG rowP; omega)).trans hW, w1, w2⟩
  rw [hb2]; rw [rcL_eq g2] at ht; exact hM.1 t ht
theorem s_maAhead {S : St} {M W : Nat} (hG : GW S) (h : MaS S M W 0 S) : ∃ T, m_Mar_workAheadOfPlacing S = some T ∧ MaS S M W 160 T := by
  have up : ∀ U, MaS S M W 0 U → MaS S M W 160 U := fun U h => by
    obtain ⟨F, h6, hM, hb, hP, h33, W', hW, w1, w2⟩ := h
    exact ⟨F, h6, hM, hb, hP, h33, W', hW, w1, by omega⟩
  unfold m_Mar_workAheadOfPlacing
  by_cases h10 : S 31 10 = 0
  · rw [if_pos h10, o1_e (s_wordsHad 31 1 hG)]
    obtain ⟨T, e, hT⟩ := s_maBeginS hG h h10
    by_cases hc : S 31 2 / 2 ≤ S 31 2 - nI (sm (hadW S 31) (cN S))
    · rw [if_pos hc]; exact ⟨S, rfl, up _ h⟩
    · rw [if_neg hc, o1_e e]; exact ⟨T, rfl, up _ hT⟩
  · rw [if_neg h10]
    obtain ⟨T, e, hT⟩ := s_maL32 hG 200 0 0 S h (by omega) (by omega)
    rw [o1_e (show m_Mar_workAheadOfPlacing_L32 200 S 0 = some T from e)]
    exact ⟨T, rfl, hT⟩
theorem s_maColS {S U : St} {M W c : Nat} (hG : GW S) (h : MaS S M W c U) : ∃ r T, m_Mar_collectNow U = some (r, T) ∧ MaS S M W (c + 400) T := by
  obtain ⟨F, h6, hM, hb, hP, h33, W', hW, w1, w2⟩ := h
  have gU := geq_Ma F
  obtain ⟨F0, hF0, hl, hn, T, e, F2, hT, t10, hsh, t3, -, -⟩ := s_maCollect (hG.eq gU) hM hW
  have g2 := geq_N F2
  have h80 := (hG.eq gU).2.1
  have b1 : sm (had1 U 31) (cN U) ≤ 80 := Nat.le_trans (sm_pos (fun i _ => by unfold had1; split <;> omega)) h80
  have b2 := lw_le (hG.eq gU) hn hl
  exact ⟨_, T, e, F.tr (F2.mono (fun a j => fN_Ma)), (F2 31 6 (by unfold fN' fM fG rowP fSw; omega)).trans h6, hT, fun u hu => hb u (hsh u hu), hP.sub g2 (fun t _ => hsh t) (fun j => F2 _ _ (by unfold fN' fM fG rowP fSw; omega)), fun j => (F2 33 j (by unfold fN' fM fG rowP fSw; omega)).trans (h33 j), _, t3, by omega, by omega⟩
theorem s_maFindS {S U : St} {M W c t : Nat} (hG : GW S) (hM160 : M < 160) (h2 : S 31 2 = nI M) (h : MaS S M W c U) (ht : t < cN S) : ∃ v T, m_Sc_firstPlaceFor 31 U (nI t) = some (v, T) ∧ MaS S M W c T ∧ (v = -1 ∨ ∃ q, v = nI q ∧ q + wN T t ≤ M ∧ ∀ x, q ≤ x → x < q + wN T t → ¬ tk T 31 x) := by
  obtain ⟨F, h6, hM, hb, hP, h33, W', hW, w1, w2⟩ := h
  have gU := geq_Ma F
  obtain ⟨v, T, e, F2, hv⟩ := s_firstPlace (k := 31) (by omega) hM160 (hG.eq gU) hP ((F 31 2 (by unfold fMa; omega)).trans h2) (t := t) (by rw [gU.c]; exact ht)
  have e2 : MEq U T := MEq.of F2 (fun a j q => by omega)
  have hp : ∀ t, pl T 31 t = pl U 31 t := fun t => by unfold pl; rw [F2 (31 + 2) t (by omega)]
  have htk : ∀ x, tk T 31 x ↔ tk U 31 x := fun x => by unfold tk; simp only [e2.1.c, e2.hb, hp, wN_eq e2.1]
  refine ⟨v, T, e, ⟨F.tr (F2.mono (fun a j q => by unfold fMa; omega)), (F2 31 6 (by omega)).trans h6, hM.eq e2, fun u hu => hb u (e2.hb u ▸ hu), hP.sub e2.1 (fun t _ hh => e2.hb t ▸ hh) (fun j => F2 _ _ (by omega)), fun j => (F2 33 j (by omega)).trans (h33 j), W', (F2 31 3 (by omega)).trans hW, w1, w2⟩, ?_⟩
  rcases hv with q | ⟨q, a, b, c⟩
  · exact Or.inl q
  · refine Or.inr ⟨q, a, by rw [wN_eq e2.1]; exact b, fun x hx hx2 => ?_⟩
    rw [htk]; rw [wN_eq e2.1] at hx2
    exact c x hx hx2
theorem s_maBreak {S U : St} {M W c : Nat} (hG : GW S) (h2 : S 31 2 = nI M) (h : MaS S M W c U) : ∃ T, m_St_breakDown_Mar U = some T ∧ Fr fMa S T ∧ MaI T M ∧ T 31 6 ≠ 0 ∧ ∃ W', T 31 3 = nI W' ∧ W ≤ W' ∧ W' ≤ W + c := by
  obtain ⟨F, h6, hM, hb, hP, h33, W', hW, w1, w2⟩ := h
  obtain ⟨T1, e1, F1, hno⟩ := s_letAll 31 1 (u2 U 31 6 1)
  obtain ⟨T2, e2, F2, R2⟩ := s_empty 36 (u2 T1 31 10 0)
  unfold m_St_breakDown_Mar m_Mar_forgetThings
  rw [o1_e e1, o1_e e2]
  have FU : Fr fMa U (u2 T2 31 14 0) := by
    have a1 : Fr fMa U (u2 U 31 6 1) := (Fr.u2 _ _ _ _).mono (fun a j h => by unfold fMa; omega)
    have a2 : Fr fMa (u2 U 31 6 1) T1 := F1.mono (fun a j h => by unfold fMa; omega)
    have a3 : Fr fMa T1 (u2 T1 31 10 0) := (Fr.u2 _ _ _ _).mono (fun a j h => by unfold fMa; omega)
    have a4 : Fr fMa (u2 T1 31 10 0) T2 := F2.mono (fun a j h => by unfold rowP at h; unfold fMa; omega)
    exact (((a1.tr a2).tr a3).tr a4).tr ((Fr.u2 _ _ _ _).mono (fun a j h => by unfold fMa; omega))
  have z6 : (u2 T2 31 14 0) 31 6 = 1 := by rw [u2_n (by omega), F2 31 6 (by unfold rowP; omega), u2_n (by omega), F1 31 6 (by omega), u2_e]
  have hh : ∀ t, t < 80 → hB (u2 T2 31 14 0) 31 t = false := fun t ht => by
    rw [show hB (u2 T2 31 14 0) 31 t = hB T1 31 t from hB_eq (fun j => by rw [u2_n (by omega), F2 (31 + 1) j (by unfold rowP; omega), u2_n (by omega)]) t]; exact hno t ht
  have FF := F.tr FU
  have h80 : ∀ t, hB (u2 T2 31 14 0) 31 t = true → t < 80 → False := fun t h1 h2 => by rw [hh t h2] at h1; cases h1
  refine ⟨_, rfl, FF, ⟨⟨(FF 31 2 (by unfold fMa; omega)).trans h2, fun t ht h1 => absurd ht (fun z => h80 t h1 z), hP.sub (geq_Ma FU) (fun t ht h1 => ?_) (fun j => by rw [u2_n (by omega), F2 (31 + 2) j (by unfold rowP; omega), u2_n (by omega), F1 (31 + 2) j (by omega), u2_n (by omega)]), fun _ => hh⟩, fun q => by rw [z6] at q; exact absurd q (by decide)⟩, by rw [z6]; decide, W', ?_, w1, w2⟩
  · have := (hG.eq (geq_Ma F)).2.1
    exact absurd (show t < 80 by omega) (fun z => h80 t h1 z)
  · rw [u2_n (by omega), F2 31 3 (by unfold rowP; omega), u2_n (by omega), F1 31 3 (by omega), u2_n (by omega), hW]
theorem MaS.inv {S U : St} {M W c : Nat} (hB' : MaB S M) (hG : GW S) (h : MaS S M W c U) : MaI U M := by
  obtain ⟨F, h6, hM, hb, hP, h33, -⟩ := h
  have g := geq_Ma F
  refine ⟨⟨(F 31 2 (by unfold fMa; omega)).trans hB'.1, fun t ht hh => ?_, hP, fun q => absurd h6 q⟩, fun _ => hM⟩
  rw [g.c]; exact hB'.2.1 t ht (hb t hh)
theorem s_maPut {S U : St} {M W c t q : Nat} (hG : GW S) (hM160 : M < 160) (hBB : MaB S M) (h : MaS S M W c U) (ht : t < cN S) (htr : t ∉ rcL S) (hth : hB S 31 t = false) (hk : ∀ u, some u ∉ kids S t) (hq : q + wN U t ≤ M) (hf : ∀ x, q ≤ x → x < q + wN U t → ¬ tk U 31 x) :
    ∃ T, (o1 (m_St_put 31 1 U (nI t) (nI q)) fun S3 => if S3 31 10 = 0 then o1 (m_Mar_paint S3 (nI t) 0) fun S4 => some S4 else o1 (m_Mar_paint S3 (nI t) 2) fun S5 => some S5) = some T ∧
      Fr fMa S T ∧ MaI T M ∧ hB T 31 t = true ∧ ∃ W', T 31 3 = nI W' ∧ W ≤ W' ∧ W' ≤ W + c := by
  obtain ⟨F, h6, hM, hb, hP, h33, W', hW, w1, w2⟩ := h
  have gU := geq_Ma F
  have hGU := hG.eq gU
  have h80 := hG.2.1
  have htU : t < cN U := by rw [gU.c]; exact ht
  have hthU : ¬ hB U 31 t = true := fun z => by rw [hb t z] at hth; cases hth
  have g1 : GEq U (u2 (u2 U (31 + 1) t 1) (31 + 2) t (nI q)) := ⟨rfl, fun _ => rfl, fun _ => rfl, fun _ => rfl⟩
  have main : ∀ v : Int32, (U 31 10 = 0 → v = 0) → (U 31 10 ≠ 0 → v = 2) → Fr fMa S (u2 (u2 (u2 U (31 + 1) t 1) (31 + 2) t (nI q)) 35 t v) ∧ MaI (u2 (u2 (u2 U (31 + 1) t 1) (31 + 2) t (nI q)) 35 t v) M ∧ hB (u2 (u2 (u2 U (31 + 1) t 1) (31 + 2) t (nI q)) 35 t v) 31 t = true ∧
      ∃ W', (u2 (u2 (u2 U (31 + 1) t 1) (31 + 2) t (nI q)) 35 t v) 31 3 = nI W' ∧ W ≤ W' ∧ W' ≤ W + c := by
    intro v v0 v2
    generalize hT : u2 (u2 (u2 U (31 + 1) t 1) (31 + 2) t (nI q)) 35 t v = T
    have g2 : GEq U T := by rw [← hT]; exact ⟨rfl, fun _ => rfl, fun _ => rfl, fun _ => rfl⟩
    have F2 : Fr (fun a j => (a = 32 ∨ a = 33 ∨ a = 35) ∧ j = t) U T := by
      rw [← hT]
      exact (((Fr.u2 _ _ _ _).mono (fun a j h => by omega)).tr ((Fr.u2 _ _ _ _).mono (fun a j h => by omega))).tr ((Fr.u2 _ _ _ _).mono (fun a j h => by omega))
    have t32 : T 32 t = 1 := by rw [← hT, u2_n (by omega), u2_n (by omega)]; exact u2_e _ _ _ _
    have t33 : T 33 t = nI q := by rw [← hT, u2_n (by omega)]; exact u2_e _ _ _ _
    have t35 : T 35 t = v := by rw [← hT, u2_e]
    have z10 : T 31 10 = U 31 10 := F2 31 10 (by omega)
    have bn : ∀ u, u ≠ t → hB T 31 u = hB U 31 u := fun u hu => by unfold hB; rw [F2 (31 + 1) u (by omega)]
    have bt : hB T 31 t = true := by rw [hB_t, show T (31 + 1) t = T 32 t from rfl, t32]; decide
    have cn : ∀ u, u ≠ t → T 35 u = U 35 u := fun u hu => F2 35 u (by omega)
    have htrU : t ∉ rcL T := by rw [rcL_eq (gU.trans g2)]; exact htr
    have FF : Fr fMa S T := F.tr (F2.mono (fun a j h => by unfold fMa; omega))
    refine ⟨FF, ⟨⟨(FF 31 2 (by unfold fMa; omega)).trans hBB.1, fun u hu hh => ?_, hP.put g2 (by omega) htU (fun u hu => F2 _ _ (by omega)) t33 (fun u hu => F2 _ _ (by omega)) hq hf, fun z => absurd ((F2 31 6 (by omega)).trans h6) z⟩, fun _ => ⟨fun u hu => ?_, fun z u hu hh => ?_, fun z => ?_⟩⟩, bt, W', (F2 31 3 (by omega)).trans hW, w1, w2⟩
    · rw [g2.c, gU.c]
      by_cases hut : u = t
      · rw [hut]; exact ht
      · rw [bn u hut] at hh; exact hBB.2.1 u hu (hb u hh)
    · by_cases hut : u = t
      · rw [hut]; exact bt
      · rw [bn u hut]; rw [rcL_eq g2] at hu; exact hM.1 u hu
    · rw [z10] at z
      by_cases hut : u = t
      · rw [hut, t35]; exact v0 z
      · rw [g2.c] at hu; rw [bn u hut] at hh; rw [cn u hut]; exact hM.2.1 z u hu hh
    · rw [z10] at z
      have hv := v2 z
      obtain ⟨R, i, qR, q14, qi, qm, qc, qr, qk⟩ := hM.2.2 z
      have hne : ∀ u ∈ R, u ≠ t := fun u hu e => hthU (e ▸ (qm u hu).2.1)
      refine ⟨R, i, qR.fr F2 (fun a j y z => by unfold rowP at y; omega), (F2 31 14 (by omega)).trans q14, qi, fun u hu => ?_, fun u hu hh => ?_, fun r u hr h1 h2 h3 => ?_, fun u hu hh h2 x hx hb2 h3 => ?_⟩
      · rw [g2.c, bn u (hne u hu), cn u (hne u hu)]; exact qm u hu
      · by_cases hut : u = t
        · rw [hut, t35]; exact Or.inr (Or.inl hv)
        · rw [g2.c] at hu; rw [bn u hut] at hh; rw [cn u hut]; exact qc u hu hh
      · by_cases hut : u = t
        · exact absurd (rc_root hr h1) (hut ▸ htrU)
        · rw [g2.r] at h1; rw [bn u hut] at h2; rw [cn u hut]; exact qr r u hr h1 h2 h3
      · by_cases hxt : x = t
        · rw [hxt, t35, hv]; decide
        · by_cases hut : u = t
          · rw [hut, kids_eq (gU.trans g2)] at hx
            exact absurd hx (hk x)
          · rw [g2.c] at hu; rw [bn u hut] at hh; rw [bn x hxt] at hb2; rw [kids_eq g2] at hx; rw [cn u hut] at h2; rw [cn x hxt]
            exact qk u hu hh h2 x hx hb2 h3
  rw [o1_e (s_put 31 1 hGU htU _)]
  have e10 : (u2 (u2 U (31 + 1) t 1) (31 + 2) t (nI q)) 31 10 = U 31 10 := by rw [u2_n (by omega), u2_n (by omega)]
  rw [e10]
  have htU1 : t < cN (u2 (u2 U (31 + 1) t 1) (31 + 2) t (nI q)) := by rw [g1.c]; exact htU
  by_cases h10 : U 31 10 = 0
  · rw [if_pos h10, o1_e (s_paint (hGU.eq g1) htU1 0)]
    exact ⟨_, rfl, main 0 (fun _ => rfl) (fun z => absurd h10 z)⟩
  · rw [if_neg h10, o1_e (s_paint (hGU.eq g1) htU1 2)]
    exact ⟨_, rfl, main 2 (fun z => absurd z h10) (fun _ => rfl)⟩
theorem s_maPlace {S : St} {M W t : Nat} (hG : GW S) (hM160 : M < 160) (hI : MaI S M) (h6 : S 31 6 = 0) (hW : S 31 3 = nI W) (ht : t < cN S) (htr : t ∉ rcL S) (hth : hB S 31 t = false) (hk : ∀ u, some u ∉ kids S t) :
    ∃ T, m_Mar_placeNew S (nI t) = some T ∧ Fr fMa S T ∧ MaI T M ∧ (T 31 6 = 0 → hB T 31 t = true) ∧ ∃ W', T 31 3 = nI W' ∧ W ≤ W' ∧ W' ≤ W + 1000 := by
  obtain ⟨hBB, hM⟩ := hI
  have h0 : MaS S M W 0 S := ⟨Fr.rfl', h6, hM h6, fun _ h => h, hBB.2.2.1, fun _ => rfl, W, hW, Nat.le_refl _, Nat.le_refl _⟩
  obtain ⟨S1, e1, h1⟩ := s_maAhead hG h0
  obtain ⟨v, S2, e2, h2, hv⟩ := s_maFindS hG hM160 hBB.1 h1 ht
  have put : ∀ (U : St) (c q : Nat), c ≤ 1000 → MaS S M W c U → q + wN U t ≤ M → (∀ x, q ≤ x → x < q + wN U t → ¬ tk U 31 x) →
      ∃ T, (o1 (m_St_put 31 1 U (nI t) (nI q)) fun S3 => if S3 31 10 = 0 then o1 (m_Mar_paint S3 (nI t) 0) fun S4 => some S4 else o1 (m_Mar_paint S3 (nI t) 2) fun S5 => some S5) = some T ∧
      Fr fMa S T ∧ MaI T M ∧ (T 31 6 = 0 → hB T 31 t = true) ∧ ∃ W', T 31 3 = nI W' ∧ W ≤ W' ∧ W' ≤ W + 1000 := by
    intro U c q hc hU hq hf
    obtain ⟨T, e, a, b, c1, W', d1, d2, d3⟩ := s_maPut hG hM160 hBB hU ht htr hth hk hq hf
    exact ⟨T, e, a, b, fun _ => c1, W', d1, d2, by omega⟩
  unfold m_Mar_placeNew
  rw [o1_e e1, ob_e e2]
  rcases hv with rfl | ⟨q, rfl, hq, hf⟩
  · rw [if_pos rfl]
    obtain ⟨r3, S3, e3, h3⟩ := s_maColS hG h2
    obtain ⟨v4, S4, e4, h4, hv4⟩ := s_maFindS hG hM160 hBB.1 h3 ht
    rw [ob_e e3, ob_e e4]
    rcases hv4 with rfl | ⟨q, rfl, hq, hf⟩
    · rw [if_pos rfl]
      obtain ⟨r5, S5, e5, h5⟩ := s_maColS hG h4
      obtain ⟨v6, S6, e6, h6', hv6⟩ := s_maFindS hG hM160 hBB.1 h5 ht
      rw [ob_e e5, ob_e e6]
      rcases hv6 with rfl | ⟨q, rfl, hq, hf⟩
      · rw [if_pos rfl]
        obtain ⟨T, e, a, b, c1, W', d1, d2, d3⟩ := s_maBreak hG hBB.1 h6'
        rw [o1_e e]
        exact ⟨T, rfl, a, b, fun z => absurd z c1, W', d1, d2, by omega⟩
      · rw [if_neg (m1_ne (by omega))]
        exact put S6 _ q (by omega) h6' hq hf
    · rw [if_neg (m1_ne (by omega)), if_neg (m1_ne (by omega))]
      exact put S4 _ q (by omega) h4 hq hf
  · rw [if_neg (m1_ne (by omega)), if_neg (m1_ne (by omega)), if_neg (m1_ne (by omega))]
    exact put S2 _ q (by omega) h2 hq hf
theorem s_maL22 {S : St} {M W a : Nat} (hG : GW S) (ha : a ≤ 20) : ∀ (n j c : Nat) (U : St), MaS S M W c U → j ≤ a → a - j < n → ∃ T, m_Mar_goOn_L22 n U (nI a) (nI j) = some T ∧ MaS S M W (c + 80 * (a - j)) T := by
  intro n
  induction n with
  | zero => intro j c U _ h1 h2; omega
  | succ n ih =>
    intro j c U h h1 h2
    have up : MaS S M W (c + 80 * (a - j)) U := by
      obtain ⟨F, h6, hM, hb, hP, h33, W', hW, w1, w2⟩ := h
      exact ⟨F, h6, hM, hb, hP, h33, W', hW, w1, by omega⟩
    rw [m_Mar_goOn_L22]
    by_cases h10 : U 31 10 = 0
    · rw [if_pos h10]; exact ⟨U, rfl, up⟩
    · rw [if_neg h10]
      by_cases hj : a ≤ j
      · rw [if_pos (by rw [n_le (by omega) (by omega)]; exact hj)]; exact ⟨U, rfl, up⟩
      · obtain ⟨T, e, hT⟩ := s_maStepS hG h h10
        rw [if_neg (by rw [n_le (by omega) (by omega)]; exact hj), o1_e e, nI_1]
        obtain ⟨V, e2, hV⟩ := ih (j + 1) _ T hT (by omega) (by omega)
        exact ⟨V, e2, by rw [show c + 80 * (a - j) = c + 80 + 80 * (a - (j + 1)) by omega]; exact hV⟩
theorem s_maGoOn {S : St} {M W a : Nat} (hG : GW S) (hI : MaI S M) (hW : S 31 3 = nI W) (ha : a ≤ 20) : ∃ r T, m_Mar_goOn S (nI a) = some (r, T) ∧ Fr fMa S T ∧ MaI T M ∧ ∃ W', T 31 3 = nI W' ∧ W ≤ W' ∧ W' ≤ W + 1600 := by
  obtain ⟨hBB, hM⟩ := hI
  have fin : ∀ (c : Nat) (U : St), c ≤ 0 → MaS S M W c U → ∃ T, m_Mar_goOn_L22 200 U (nI a) 0 = some T ∧ Fr fMa S T ∧ MaI T M ∧ ∃ W', T 31 3 = nI W' ∧ W ≤ W' ∧ W' ≤ W + 1600 := by
    intro c U hc hU
    obtain ⟨T, e, hT⟩ := s_maL22 hG ha 200 0 c U hU (Nat.zero_le _) (by omega)
    have hI2 := hT.inv hBB hG
    obtain ⟨F, -, -, -, -, -, W', d1, d2, d3⟩ := hT
    exact ⟨T, e, F, hI2, W', d1, d2, by omega⟩
  unfold m_Mar_goOn
  by_cases h6 : S 31 6 = 0
  · have h0 : MaS S M W 0 S := ⟨Fr.rfl', h6, hM h6, fun _ h => h, hBB.2.2.1, fun _ => rfl, W, hW, Nat.le_refl _, Nat.le_refl _⟩
    rw [if_pos h6]
    by_cases h10 : S 31 10 = 0
    · obtain ⟨U, e, hU⟩ := s_maBeginS hG h0 h10
      obtain ⟨T, e2, F, hI2, hw⟩ := fin 0 U (Nat.le_refl _) hU
      rw [if_pos h10, o1_e e, o1_e e2]
      by_cases q : T 31 10 = 0
      · rw [if_pos q]; exact ⟨_, T, rfl, F, hI2, hw⟩
      · rw [if_neg q]; exact ⟨_, T, rfl, F, hI2, hw⟩
    · obtain ⟨T, e2, F, hI2, hw⟩ := fin 0 S (Nat.le_refl _) h0
      rw [if_neg h10, o1_e e2]
      by_cases q : T 31 10 = 0
      · rw [if_pos q]; exact ⟨_, T, rfl, F, hI2, hw⟩
      · rw [if_neg q]; exact ⟨_, T, rfl, F, hI2, hw⟩
  · rw [if_neg h6]
    exact ⟨_, S, rfl, Fr.rfl', ⟨hBB, hM⟩, W, hW, Nat.le_refl _, by omega⟩
/-- the graph changes under store 2 -/
def MaX (S : St) (E1 : Nat → Prop) (E2 : Nat → Nat → Prop) : Prop := RH S 31 ∧ (S 31 10 = 0 → ∀ t, t < cN S → hB S 31 t = true → S 35 t = 0) ∧ (S 31 10 ≠ 0 → ∃ R i, MaQ S R i E1 E2)
theorem MaG.chg {S T : St} {E1 : Nat → Prop} {E2 : Nat → Nat → Prop} (hM : MaG S) (hC : HC S 31) (hT : GW T) (hc : cN S ≤ cN T) (h31 : ∀ a j, 30 < a → T a j = S a j) (hR : RH T 31)
    (hr : ∀ r t, r < 6 → rtO T r = some t → (∃ r', r' < 6 ∧ rtO S r' = some t) ∨ E1 t) (hk : ∀ t u, t < cN S → some u ∈ kids T t → some u ∈ kids S t ∨ E2 t u) : MaX T E1 E2 := by
  have hb : ∀ t, hB T 31 t = hB S 31 t := fun t => hB_eq (fun j => h31 _ _ (by omega)) t
  have h80 := hT.2.1
  have lt : ∀ t, t < cN T → hB T 31 t = true → t < cN S := fun t ht hh => hC t (by omega) (hb t ▸ hh)
  refine ⟨hR, fun q t ht hh => ?_, fun q => ?_⟩
  · rw [h31 _ _ (by omega)] at q ⊢
    exact hM.2.1 q t (lt t ht hh) (hb t ▸ hh)
  · rw [h31 _ _ (by omega)] at q
    obtain ⟨R, i, qR, q14, qi, qm, qc, qr, qk⟩ := hM.2.2 q
    refine ⟨R, i, qR.of (h31 _ _ (by omega)) (fun j => h31 _ _ (by omega)) (fun j => h31 _ _ (by omega)), (h31 _ _ (by omega)).trans q14, qi, fun t ht => ?_, fun t ht hh => ?_, fun r t hr' h1 h2 h3 => ?_, fun t ht hh h2 u hu hb2 h3 => ?_⟩
    · rw [hb, h31 _ _ (by omega)]
      exact ⟨Nat.lt_of_lt_of_le (qm t ht).1 hc, (qm t ht).2⟩
    · rw [h31 _ _ (by omega)]; exact qc t (lt t ht hh) (hb t ▸ hh)
    · rw [h31 _ _ (by omega)]
      obtain ⟨r', a, b⟩ := (hr r t hr' h1).resolve_right h3
      exact qr r' t a b (hb t ▸ h2) (fun z => z)
    · rw [h31 _ _ (by omega)] at h2 ⊢
      exact qk t (lt t ht hh) (hb t ▸ hh) h2 u ((hk t u (lt t ht hh) hu).resolve_right h3) (hb u ▸ hb2) (fun z => z)
theorem s_maGrey {S : St} {E1 : Nat → Prop} {E2 : Nat → Nat → Prop} (hG : GW S) (hX : MaX S E1 E2) (h10 : S 31 10 ≠ 0) (o : Option Nat) (ho : B80 o) (h1 : ∀ t, E1 t → o = some t) (h2 : ∀ t u, E2 t u → o = some u) :
    ∃ T, m_Mar_becomeGrey S (oI o) = some T ∧ Fr fG S T ∧ MaG T := by
  have h80 := hG.2.1
  obtain ⟨hR, hwh, hQ⟩ := hX
  obtain ⟨R, i, hQ⟩ := hQ h10
  have hMR := hQ.MR (WC_wc S) h10
  obtain ⟨qR, q14, qi, qm, qc, qr, qk⟩ := hQ
  obtain ⟨T, e, F, R1, W1, C1⟩ := s_bg hG qR hMR.2.2.2.1 o ho
  have g := geq_G F
  have bT := hB_G F
  obtain ⟨D, eD⟩ := addL_pre R (wfo (wc S) o)
  have z10 : T 31 10 ≠ 0 := by rw [F 31 10 (by unfold fG rowP; omega)]; exact h10
  have nz : ∀ t, t < 80 → S 35 t ≠ 0 → T 35 t ≠ 0 := fun t ht h => by
    rw [C1 t ht]
    split
    · decide
    · exact h
  have it : ∀ t, t < cN S → hB S 31 t = true → o = some t → T 35 t ≠ 0 := fun t ht hh ho' => by
    by_cases h0 : S 35 t = 0
    · have hw : wc S t = true := (WC_wc S t (by omega)).mp (clO_0.mpr ⟨hh, ht, h0⟩)
      rw [C1 t (by omega), if_pos ⟨mem_addL.mpr (Or.inr (wfo_e.mpr ⟨ho', hw⟩)), fun z => (qm t z).2.2 h0⟩]; decide
    · exact nz t (by omega) h0
  refine ⟨T, e, F, fun t ht => ?_, fun z => absurd z z10, fun _ => ⟨_, i, R1, (F 31 14 (by unfold fG rowP; omega)).trans q14, by rw [eD, List.length_append]; omega, fun t ht => ?_, fun t ht hh => ?_, fun r t hr h3 h4 _ => ?_, fun t ht hh h3 u hu hb2 _ => ?_⟩⟩
  · rw [bT]; rw [rcL_eq g] at ht; exact hR t ht
  · rw [g.c, bT]
    by_cases q : t ∈ R
    · obtain ⟨a, b, c⟩ := qm t q
      exact ⟨a, b, nz t (by omega) c⟩
    · obtain ⟨h5, h6⟩ := wfo_e.mp ((mem_addL.mp ht).resolve_left q)
      obtain ⟨a, b, c⟩ := clO_0.mp ((WC_wc S t (ho t h5)).mpr h6)
      exact ⟨b, a, it t b a h5⟩
  · rw [g.c] at ht; rw [bT] at hh
    rw [C1 t (by omega)]
    by_cases q : t ∈ addL R (wfo (wc S) o) ∧ t ∉ R
    · refine Or.inr (Or.inr ?_)
      have h5 := q.1
      rw [eD] at h5 ⊢
      rw [List.drop_append_of_le_length qi]
      exact List.mem_append_right _ ((List.mem_append.mp h5).resolve_left q.2)
    · rw [if_neg q]
      rcases qc t ht hh with z | z | z
      · exact Or.inl z
      · exact Or.inr (Or.inl z)
      · refine Or.inr (Or.inr ?_)
        rw [eD, List.drop_append_of_le_length qi]
        exact List.mem_append_left _ z
  · rw [g.r] at h3; rw [bT] at h4
    have ht := (hG.2.2.2 r hr).2 t h3
    by_cases q : E1 t
    · exact it t ht h4 (h1 t q)
    · exact nz t (by omega) (qr r t hr h3 h4 q)
  · rw [g.c] at ht; rw [bT] at hh hb2; rw [kids_eq g] at hu
    have hu8 := kids_lt hG hu
    have h3' : S 35 t = 2 := by
      rw [C1 t (by omega)] at h3
      split at h3
      · exact absurd h3 (by decide)
      · exact h3
    by_cases q : E2 t u
    · exact it u hu8 hb2 (h2 t u q)
    · exact nz u (by omega) (qk t ht hh h3' u hu hb2 q)
theorem s_maLearnR {S : St} (hG : GW S) (a2 : Int32) (o : Option Nat) (ho : B80 o) (hX : MaX S (fun t => o = some t) nE2) : ∃ T, m_Mar_learnNaming S (-1) a2 (oI o) = some T ∧ Fr fG S T ∧ MaG T := by
  unfold m_Mar_learnNaming
  by_cases h10 : S 31 10 = 0
  · rw [if_pos h10]
    exact ⟨S, rfl, Fr.rfl', hX.1, hX.2.1, fun q => absurd h10 q⟩
  · obtain ⟨T, e, F, hM⟩ := s_maGrey hG hX h10 o ho (fun _ q => q) (fun _ _ q => q.elim)
    rw [if_neg h10, if_pos rfl, o1_e e]
    exact ⟨T, rfl, F, hM⟩
theorem s_maLearnF {S : St} (hG : GW S) {x : Nat} (hx : x < cN S) (a2 : Int32) (o : Option Nat) (ho : B80 o) (hX : MaX S nE1 (fun t u => t = x ∧ o = some u)) : ∃ T, m_Mar_learnNaming S (nI x) a2 (oI o) = some T ∧ Fr fG S T ∧ MaG T := by
  have h80 := hG.2.1
  unfold m_Mar_learnNaming
  by_cases h10 : S 31 10 = 0
  · rw [if_pos h10]
    exact ⟨S, rfl, Fr.rfl', hX.1, hX.2.1, fun q => absurd h10 q⟩
  · rw [if_neg h10, if_neg (m1_ne (by omega)), ← oI_s x, o1_e (s_colourOf hG (some x) (b_s (by omega)))]
    by_cases h2 : clO S (some x) = 2
    · obtain ⟨T, e, F, hM⟩ := s_maGrey hG hX h10 o ho (fun _ q => q.elim) (fun _ _ q => q.2)
      rw [if_pos h2, o1_e e]
      exact ⟨T, rfl, F, hM⟩
    · rw [if_neg h2]
      obtain ⟨R, i, qR, q14, qi, qm, qc, qr, qk⟩ := hX.2.2 h10
      refine ⟨S, rfl, Fr.rfl', hX.1, hX.2.1, fun _ => ⟨R, i, qR, q14, qi, qm, qc, qr, fun t ht hh h3 u hu hb2 _ => qk t ht hh h3 u hu hb2 ?_⟩⟩
      rintro ⟨rfl, -⟩
      exact h2 (by rw [clO_s, if_pos ⟨hh, ht⟩, h3])
