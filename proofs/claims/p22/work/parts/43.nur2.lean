/-! store 1: the small collecting, the great one, a new thing -/
theorem len_same {L M : List Nat} {n : Nat} (hL : L.Nodup) (hM : M.Nodup) (hl : ∀ t ∈ M, t < n) (h : ∀ t, t ∈ L ↔ t ∈ M) (w : Nat → Nat) : lsum w L = lsum w M :=
  Nat.le_antisymm (lsum_sub hL hM hl (fun t q => (h t).mp q)) (lsum_sub hM hL (fun t q => hl t ((h t).mp q)) (fun t q => (h t).mpr q))
theorem s_nuForget {S : St} {M : Nat} (h1 : S 18 1 = nI M) (hM : M < 200) : ∃ S2 T, m_St_letAllGo 18 0 S = some S2 ∧ m_Nur_forgetThings S2 = some T ∧ Fr (fun a j => a = 19 ∨ rowP 21 a j ∨ rowP 24 a j ∨ (a = 18 ∧ (j = 15 ∨ j = 16))) S T ∧ NuQ T M [] [] := by
  obtain ⟨S2, e2, F2, hno⟩ := s_letAll 18 0 S
  obtain ⟨T1, e3, F3, R3⟩ := s_empty 21 S2
  obtain ⟨T2, e4, F4, R4⟩ := s_empty 24 T1
  have z1 : T2 18 1 = nI M := by rw [F4 18 1 (by unfold rowP; omega), F3 18 1 (by unfold rowP; omega), F2 18 1 (by omega), h1]
  have e5 : m_Nur_forgetThings S2 = some (u2 (u2 T2 18 15 0) 18 16 (nI (M / 4))) := by
    unfold m_Nur_forgetThings
    rw [o1_e e3, o1_e e4, z1, show (4 : Int32) = nI 4 from rfl, pk_div (by omega) (by omega) (by omega)]
  have F5 : Fr (fun a j => a = 18 ∧ (j = 15 ∨ j = 16)) T2 (u2 (u2 T2 18 15 0) 18 16 (nI (M / 4))) := ((Fr.u2 _ _ _ _).mono (fun a j h => by omega)).tr ((Fr.u2 _ _ _ _).mono (fun a j h => by omega))
  refine ⟨S2, _, e2, e5, ?_, (R3.fr F4 (fun a j y z => by unfold rowP at y z; omega)).fr F5 (fun a j y z => by unfold rowP at y; omega), R4.fr F5 (fun a j y z => by unfold rowP at y; omega), fun t h => (by cases h), fun t h => (by cases h), fun t h => (by cases h), fun t ht => ?_, ?_, ?_, PK.nil _ _ _, PK.nil _ _ _⟩
  · exact (((F2.mono (fun a j q => Or.inl (by omega))).tr (F3.mono (fun a j q => Or.inr (Or.inl q)))).tr (F4.mono (fun a j q => Or.inr (Or.inr (Or.inl q))))).tr (F5.mono (fun a j q => Or.inr (Or.inr (Or.inr q))))
  · rw [show hB (u2 (u2 T2 18 15 0) 18 16 (nI (M / 4))) 18 t = hB S2 18 t from hB_eq (fun j => by rw [F5 (18 + 1) j (by omega), F4 (18 + 1) j (by unfold rowP; omega), F3 (18 + 1) j (by unfold rowP; omega)]) t, hno t ht]
    exact ⟨fun z => (by cases z), fun z => z.elim (fun y => (by cases y)) (fun y => (by cases y))⟩
  · rw [u2_n (by omega), u2_e]; rfl
  · rw [u2_e, lsum_n, Nat.add_zero]
theorem NuQ.rh {S : St} {M : Nat} {Y O : List Nat} (hG : GW S) (h : NuQ S M Y O) (hr : ∀ t ∈ rcL S, t ∈ Y ∨ t ∈ O) : RH S 18 := fun t ht => (h.2.2.2.2.2.1 t (Nat.lt_of_lt_of_le (rc_lt hG t ht) hG.2.1)).mpr (hr t ht)
theorem s_greatFits {S : St} {M : Nat} (hG : GI S) (hR : RH S 18) (h1 : S 18 1 = nI M) (hM : M < 200) : m_Nur_greatFits S = some (zb (decide (sm (hadR S 18) (cN S) ≤ M - M / 4))) := by
  have hb : sm (hadR S 18) (cN S) ≤ 320 := by rw [r_sum hG.1 hR]; exact lw_le hG.1 (rc_nodup S) (rc_lt hG.1)
  unfold m_Nur_greatFits
  rw [o1_e (s_wordsR 18 0 hG), h1, show (4 : Int32) = nI 4 from rfl, pk_div (by omega) (by omega) (by omega), pk_sub (by omega)]
  by_cases q : sm (hadR S 18) (cN S) ≤ M - M / 4
  · rw [if_neg (by rw [n_lt (by omega) (by omega)]; omega), decide_eq_true q]; rfl
  · rw [if_pos (by rw [n_lt (by omega) (by omega)]; omega), decide_eq_false q]; rfl
theorem s_nuBreak {S : St} {M : Nat} (h1 : S 18 1 = nI M) (hM : M < 200) : ∃ T, m_St_breakDown_Nur S = some T ∧ Fr fNu S T ∧ NuI T M ∧ T 18 5 ≠ 0 ∧ T 18 2 = S 18 2 := by
  obtain ⟨S2, T, e1, e2, F, Q⟩ := s_nuForget (S := u2 S 18 5 1) (by rw [u2_n (by omega)]; exact h1) hM
  have t5 : T 18 5 = 1 := by rw [F 18 5 (by unfold rowP; omega), u2_e]
  unfold m_St_breakDown_Nur
  rw [o1_e e1, o1_e e2]
  refine ⟨T, rfl, ((Fr.u2 _ _ _ _).mono (fun a j h => by unfold fNu; omega)).tr (F.mono (fun a j q => by unfold rowP at q; unfold fNu; omega)), ⟨by rw [F 18 1 (by unfold rowP; omega), u2_n (by omega)]; exact h1, fun _ t ht => ?_, fun q => by rw [t5] at q; exact absurd q (by decide)⟩, by rw [t5]; decide, by rw [F 18 2 (by unfold rowP; omega), u2_n (by omega)]⟩
  exact Bool.eq_false_iff.mpr (fun z => ((Q.2.2.2.2.2.1 t ht).mp z).elim (fun y => by cases y) (fun y => by cases y))
theorem s_nuCollect {S : St} {M W : Nat} (hG : GI S) (hI : NuI S M) (hM : M < 200) (h5 : S 18 5 = 0) (hW : S 18 2 = nI W) :
    (sm (hadR S 18) (cN S) ≤ M - M / 4 ∧ ∃ T R, m_Nur_collectNow S = some (nI (sm (hadU S 18) (cN S)), T) ∧ Fr fNu S T ∧ NuI T M ∧ T 18 5 = 0 ∧ T 18 2 = nI (W + sm (hadR S 18) (cN S)) ∧ NuQ T M [] R ∧ (∀ t, t ∈ R ↔ t ∈ rcL S) ∧ M / 4 + lsum (wN S) R ≤ M) ∨
    (¬ sm (hadR S 18) (cN S) ≤ M - M / 4 ∧ ∃ T, m_Nur_collectNow S = some (0, T) ∧ Fr fNu S T ∧ NuI T M ∧ T 18 5 ≠ 0 ∧ T 18 2 = S 18 2) := by
  obtain ⟨h1, -, h3⟩ := hI
  obtain ⟨Y, O, hQ, hY, hO, hr⟩ := h3 h5
  have hw := hG.1
  have hRH := hQ.rh hw hr
  have hrs := r_sum hw hRH
  unfold m_Nur_collectNow
  rw [o1_e (s_greatFits hG hRH h1 hM)]
  by_cases hc : sm (hadR S 18) (cN S) ≤ M - M / 4
  · refine Or.inl ⟨hc, ?_⟩
    obtain ⟨T1, R, e1, F1, R1, hm⟩ := s_findReached hG hQ.1 hQ.2.1 hr
    have g1 := GEq.row F1 (by omega)
    obtain ⟨S2, T2, e2, e3, F2, Q2⟩ := s_nuForget (S := T1) ((F1 18 1 (by unfold rowP; omega)).trans h1) hM
    have g2 : GEq T1 T2 := GEq.of F2 (fun a j q => by unfold rowP at q; omega)
    have gg := g1.trans g2
    have R2 : RowIs T2 27 R := R1.fr F2 (fun a j y z => by unfold rowP at y z; omega)
    have lR := R2.len
    have hRc : ∀ t ∈ R, t < cN S := fun t ht => rc_lt hw t ((hm t).mp ht)
    have w2 : T2 18 2 = nI W := by rw [F2 18 2 (by unfold rowP; omega), F1 18 2 (by unfold rowP; omega), hW]
    obtain ⟨T3, e4, F3, Q3, w3⟩ := s_nuL32 R M hM 200 0 T2 W (hw.eq gg) R2 (fun t ht => by rw [gg.c]; exact hRc t ht) (by rw [List.take_zero]; exact Q2) w2 (Nat.zero_le _) (by omega)
    have g3 : GEq T2 T3 := GEq.of F3 (fun a j q => by unfold fO1 rowP at q; omega)
    have g4 := gg.trans g3
    have hls : lsum (wN S) R = lsum (wN S) (rcL S) := len_same R1.1 (rc_nodup S) (rc_lt hw) hm _
    have hll : R.length = (rcL S).length := by rw [← lsum_1, ← lsum_1]; exact len_same R1.1 (rc_nodup S) (rc_lt hw) hm _
    rw [List.drop_zero, wN_eq gg, hls, ← hrs] at w3
    have z27 : T3 27 2 = nI R.length := by rw [F3 27 2 (by unfold fO1 rowP; omega)]; exact R2.2.2.1
    have FF : Fr fNu S T3 := ((F1.mono (fun a j q => by unfold rowP at q; unfold fNu; omega)).tr (F2.mono (fun a j q => by unfold rowP at q; unfold fNu; omega))).tr (F3.mono (fun a j q => by unfold fO1 rowP at q; unfold fNu; omega))
    have F5 : Fr (fun a j => a = 18 ∧ j = 4) T3 (u2 T3 18 4 (T3 18 4 + 1)) := Fr.u2 _ _ _ _
    have g5 : GEq T3 (u2 T3 18 4 (T3 18 4 + 1)) := ⟨rfl, fun _ => rfl, fun _ => rfl, fun _ => rfl⟩
    have Q5 := Q3.fr g5 F5 (fun a j q z => by unfold rowP at z; omega)
    have FS : Fr fNu S (u2 T3 18 4 (T3 18 4 + 1)) := FF.tr (F5.mono (fun a j q => by unfold fNu; omega))
    have t5 : (u2 T3 18 4 (T3 18 4 + 1)) 18 5 = 0 := by rw [u2_n (by omega), F3 18 5 (by unfold fO1 rowP; omega), F2 18 5 (by unfold rowP; omega), F1 18 5 (by unfold rowP; omega), h5]
    have hle : M / 4 + lsum (wN S) R ≤ M := by rw [hls, ← hrs]; omega
    rw [decide_eq_true hc, if_neg (by decide), o1_e (s_countHad 18 0 hw), o1_e e1, o1_e e2, o1_e e3, o1_e (show m_Nur_collectNow_L32 200 T2 0 = some T3 from e4), z27, u_split hw hRH, hll, pk_sub (by omega), Nat.add_sub_cancel]
    refine ⟨_, R, rfl, FS, ⟨(FS 18 1 (by unfold fNu; omega)).trans h1, fun q => absurd t5 q, fun _ => ⟨[], R, Q5, ?_, ?_, fun t ht => Or.inr ?_⟩⟩, t5, ?_, Q5, hm, hle⟩
    · rw [lsum_n]; exact Nat.zero_le _
    · rw [wN_eq g5, wN_eq g4]; exact hle
    · rw [rcL_eq g5, rcL_eq g4] at ht; exact (hm t).mpr ht
    · rw [u2_n (by omega)]; exact w3
  · obtain ⟨T, e, F, hT, t5, t2⟩ := s_nuBreak h1 hM
    rw [decide_eq_false hc, if_pos (show zb false = 0 from rfl), o1_e e]
    exact Or.inr ⟨hc, T, rfl, F, hT, t5, t2⟩
/-! what is young and must stay -/
theorem s_holdsN {k : Nat} {S : St} {L : List Nat} (h : RowIs S k L) {t : Nat} (ht : t < 80) : m_Row_holds k S (nI t) = some (zb (decide (t ∈ L))) := s_holds h (some t) (b_s ht)
def yB (Y : List Nat) : Nat → Bool := fun u => decide (u ∈ Y)
theorem s_ay {S : St} {Y L : List Nat} (hY : RowIs S 21 Y) (hL : RowIs S 27 L) (o : Option Nat) (ho : B80 o) : ∃ T, m_Nur_addYoung S (oI o) = some T ∧ Fr (rowP 27) S T ∧ RowIs T 27 (addL L (wfo (yB Y) o)) := by
  cases o with
  | none =>
    unfold m_Nur_addYoung
    rw [o1_e (show m_Row_holds 21 S (oI none) = some 0 from s_holds hY none ho), if_pos rfl]
    exact ⟨S, rfl, Fr.rfl', hL⟩
  | some u =>
    unfold m_Nur_addYoung
    rw [o1_e (show m_Row_holds 21 S (oI (some u)) = some (zb (decide (u ∈ Y))) from s_holdsN hY (ho u rfl))]
    by_cases q : u ∈ Y
    · obtain ⟨T, e, F, R⟩ := s_add hL (some u) ho
      rw [decide_eq_true q, if_neg (by decide), o1_e e, wfo_e.mpr ⟨rfl, show yB Y u = true from decide_eq_true q⟩]
      exact ⟨T, rfl, F, R⟩
    · rw [decide_eq_false q, if_pos (show zb false = 0 from rfl), wfo_s, if_neg (show ¬ yB Y u = true from fun z => q (of_decide_eq_true z))]
      exact ⟨S, rfl, Fr.rfl', hL⟩
theorem fr27 {S T : St} {k : Nat} {R : List Nat} (h : RowIs S k R) (F : Fr (rowP 27) S T) (hk : k = 21 ∨ k = 24) : RowIs T k R := h.fr F (fun a j y z => by unfold rowP at y z; omega)
theorem s_ayF {Y : List Nat} {x : Nat} (hx : x < 80) : ∀ (n i : Nat) (S : St) (L : List Nat), GW S → RowIs S 21 Y → RowIs S 27 L → i ≤ 3 → 3 - i < n →
    ∃ T, m_Nur_addYoungNamedBy_L2 n S (nI x) (nI i) = some T ∧ Fr (rowP 27) S T ∧ RowIs T 27 (addsL L ((kidsF S (some x) i).map (wfo (yB Y)))) := by
  intro n
  induction n with
  | zero => intro i S R _ _ _ h1 h2; omega
  | succ n ih =>
    intro i S R hG hY hR h1 h2
    have hf := fO_le hG (some x)
    rw [m_Nur_addYoungNamedBy_L2, ← oI_s x, o1_e (s_fieldsOf hG (some x) (b_s hx))]
    by_cases hi : fO S (some x) ≤ i
    · rw [if_pos (by rw [n_le (by omega) (by omega)]; exact hi), kidsF_end hi]
      exact ⟨S, rfl, Fr.rfl', hR⟩
    · rw [if_neg (by rw [n_le (by omega) (by omega)]; exact hi), o1_e (s_nameOf hG (some x) (b_s hx) i (by omega))]
      obtain ⟨T, e, F, R1⟩ := s_ay hY hR (nmQ S (some x) i) (fun u hu => Nat.lt_of_lt_of_le (hG.b_nq _ i u hu) hG.2.1)
      rw [o1_e e, nI_1, oI_s, kidsF_cons (by omega), List.map_cons]
      have g := GEq.row F (by omega)
      obtain ⟨U, e2, F2, R2⟩ := ih (i + 1) T _ (hG.eq g) (fr27 hY F (Or.inl rfl)) R1 (by omega) (by omega)
      rw [kidsF_eq g] at R2
      exact ⟨U, e2, F.tr F2, R2⟩
theorem s_ayN {Y : List Nat} {x : Nat} (hx : x < 80) {S : St} {L : List Nat} (hG : GW S) (hY : RowIs S 21 Y) (hL : RowIs S 27 L) : ∃ T, m_Nur_addYoungNamedBy S (nI x) = some T ∧ Fr (rowP 27) S T ∧ RowIs T 27 (addsL L (wk S (yB Y) x)) := by
  obtain ⟨T, e, F, R⟩ := s_ayF hx 200 0 S L hG hY hL (by omega) (by omega)
  unfold m_Nur_addYoungNamedBy
  rw [o1_e (show m_Nur_addYoungNamedBy_L2 200 S (nI x) 0 = some T from e)]
  exact ⟨T, rfl, F, R⟩
theorem s_ayR {Y : List Nat} : ∀ (n i : Nat) (S : St) (L : List Nat), GW S → RowIs S 21 Y → RowIs S 27 L → i ≤ 6 → 6 - i < n →
    ∃ T, m_Nur_findYoung_L9 n S (nI i) = some T ∧ Fr (rowP 27) S T ∧ RowIs T 27 (addsL L ((rtsF S (-1) i).map (wfo (yB Y)))) := by
  intro n
  induction n with
  | zero => intro i S R _ _ _ h1 h2; omega
  | succ n ih =>
    intro i S R hG hY hR h1 h2
    rw [m_Nur_findYoung_L9]
    by_cases hi : i = 6
    · subst hi
      exact ⟨S, if_pos (by decide), Fr.rfl', hR⟩
    · rw [if_neg (by rw [show (6 : Int32) = nI 6 from rfl, n_le (by omega) (by omega)]; omega), o1_e (s_rootAt hG (by omega))]
      obtain ⟨T, e, F, R1⟩ := s_ay hY hR (rtO S i) (hG.b_rt (by omega))
      rw [o1_e e, nI_1, rtsF_cons (by omega), if_neg (m1_ne (by omega)), List.map_cons]
      have g := GEq.row F (by omega)
      obtain ⟨U, e2, F2, R2⟩ := ih (i + 1) T _ (hG.eq g) (fr27 hY F (Or.inl rfl)) R1 (by omega) (by omega)
      rw [rtsF_eq g] at R2
      exact ⟨U, e2, F.tr F2, R2⟩
theorem s_ayO {Y O : List Nat} : ∀ (n i : Nat) (S : St) (L : List Nat), GW S → RowIs S 21 Y → RowIs S 24 O → RowIs S 27 L → i ≤ cN S → cN S - i < n → (∀ t ∈ L, t ∈ Y) →
    ∃ T L', m_Nur_findYoung_L35 n S (nI i) = some T ∧ Fr (rowP 27) S T ∧ RowIs T 27 L' ∧ (∀ t ∈ L, t ∈ L') ∧ (∀ t ∈ L', t ∈ Y) ∧ ∀ t, i ≤ t → t < cN S → t ∈ O → ∀ u, some u ∈ kids S t → u ∈ Y → u ∈ L' := by
  intro n
  induction n with
  | zero => intro i S L _ _ _ _ h1 h2; omega
  | succ n ih =>
    intro i S L hG hY hO hL h1 h2 hLY
    have h80 := hG.2.1
    rw [m_Nur_findYoung_L35, hG.1]
    by_cases hi : cN S ≤ i
    · rw [if_pos (by rw [n_le (by omega) (by omega)]; exact hi)]
      exact ⟨S, L, rfl, Fr.rfl', hL, fun _ h => h, hLY, fun t a b => by omega⟩
    · rw [if_neg (by rw [n_le (by omega) (by omega)]; exact hi), o1_e (s_holdsN hO (show i < 80 by omega)), nI_1]
      by_cases q : i ∈ O
      · obtain ⟨T, e, F, R⟩ := s_ayN (show i < 80 by omega) hG hY hL
        have g := GEq.row F (by omega)
        obtain ⟨U, L', e2, F2, R2, k1, k2, k3⟩ := ih (i + 1) T _ (hG.eq g) (fr27 hY F (Or.inl rfl)) (fr27 hO F (Or.inr rfl)) R (by rw [g.c]; omega) (by rw [g.c]; omega) (fun t ht => by
          rcases mem_addsL.mp ht with z | z
          · exact hLY t z
          · exact of_decide_eq_true (mem_wk.mp z).2)
        rw [decide_eq_true q, if_neg (by decide), o1_e e]
        refine ⟨U, L', e2, F.tr F2, R2, fun t ht => k1 t (mem_addsL.mpr (Or.inl ht)), k2, fun t a b c u hu hy => ?_⟩
        by_cases hti : t = i
        · subst hti
          exact k1 u (mem_addsL.mpr (Or.inr (mem_wk.mpr ⟨hu, decide_eq_true hy⟩)))
        · exact k3 t (by omega) (by rw [g.c]; exact b) c u (by rw [kids_eq g]; exact hu) hy
      · rw [decide_eq_false q, if_pos (show zb false = 0 from rfl)]
        obtain ⟨U, L', e2, F2, R2, k1, k2, k3⟩ := ih (i + 1) S L hG hY hO hL (by omega) (by omega) hLY
        refine ⟨U, L', e2, F2, R2, k1, k2, fun t a b c u hu hy => ?_⟩
        have : t ≠ i := fun z => q (z ▸ c)
        exact k3 t (by omega) b c u hu hy
theorem s_ayC {Y : List Nat} : ∀ (n i : Nat) (S : St) (L : List Nat), GW S → RowIs S 21 Y → RowIs S 27 L → i ≤ 80 → 80 - i < n →
    ∃ T, m_Nur_findYoung_L70 n S (nI i) = some T ∧ Fr (rowP 27) S T ∧ RowIs T 27 (clo (wk S (yB Y)) (80 - i) i L) := by
  intro n
  induction n with
  | zero => intro i S L _ _ _ h1 h2; omega
  | succ n ih =>
    intro i S L hG hY hR h1 h2
    have hlen := hR.len
    rw [m_Nur_findYoung_L70, hR.2.2.1]
    by_cases hi : L.length ≤ i
    · rw [if_pos (by rw [n_le (by omega) (by omega)]; exact hi), clo_n _ _ _ _ (List.getElem?_eq_none hi)]
      exact ⟨S, rfl, Fr.rfl', hR⟩
    · obtain ⟨x, hx⟩ : ∃ x, L[i]? = some x := ⟨L[i]'(by omega), List.getElem?_eq_getElem (by omega)⟩
      rw [if_neg (by rw [n_le (by omega) (by omega)]; exact hi), if_neg (by rw [show (80 : Int32) = nI 80 from rfl, n_le (by omega) (by omega)]; omega), o1_e (s_get hR i (by omega)), hx, oI_s]
      obtain ⟨T, e, F, R1⟩ := s_ayN (hR.2.1 x (List.mem_of_getElem? hx)) hG hY hR
      have g := GEq.row F (by omega)
      obtain ⟨U, e2, F2, R2⟩ := ih (i + 1) T _ (hG.eq g) (fr27 hY F (Or.inl rfl)) R1 (by omega) (by omega)
      rw [o1_e e, nI_1]
      refine ⟨U, e2, F.tr F2, ?_⟩
      rw [show 80 - i = (80 - (i + 1)) + 1 by omega, clo_s _ _ _ _ hx]
      rw [wk_eq g] at R2
      exact R2
theorem s_findYoung {S : St} {Y O : List Nat} (hG : GW S) (hY : RowIs S 21 Y) (hO : RowIs S 24 O) (hOc : ∀ t ∈ O, t < cN S) : ∃ T F, m_Nur_findYoung S = some T ∧ Fr (rowP 27) S T ∧ RowIs T 27 F ∧ (∀ t ∈ F, t ∈ Y) ∧
    (∀ r t, r < 6 → rtO S r = some t → t ∈ Y → t ∈ F) ∧ (∀ t, t ∈ O ∨ t ∈ F → ∀ u, some u ∈ kids S t → u ∈ Y → u ∈ F) := by
  have h80 := hG.2.1
  obtain ⟨T0, e0, F0, R0⟩ := s_empty 27 S
  have g0 := GEq.row F0 (by omega)
  obtain ⟨T1, e1, F1, R1⟩ := s_ayR (Y := Y) 200 0 T0 [] (hG.eq g0) (fr27 hY F0 (Or.inl rfl)) R0 (by omega) (by omega)
  have g1 := g0.trans (GEq.row F1 (by omega))
  have m1 : ∀ t ∈ addsL [] ((rtsF T0 (-1) 0).map (wfo (yB Y))), t ∈ Y := fun t ht => by
    have h := (mem_addsL.mp ht).resolve_left List.not_mem_nil
    exact of_decide_eq_true (mem_rtw.mp h).2
  obtain ⟨T2, L2, e2, F2, R2, k1, k2, k3⟩ := s_ayO (O := O) 200 0 T1 _ (hG.eq g1) (fr27 (fr27 hY F0 (Or.inl rfl)) F1 (Or.inl rfl)) (fr27 (fr27 hO F0 (Or.inr rfl)) F1 (Or.inr rfl)) R1 (Nat.zero_le _) (by rw [g1.c]; omega) m1
  have g2 := g1.trans (GEq.row F2 (by omega))
  obtain ⟨T3, e3, F3, R3⟩ := s_ayC (Y := Y) 200 0 T2 L2 (hG.eq g2) (fr27 (fr27 (fr27 hY F0 (Or.inl rfl)) F1 (Or.inl rfl)) F2 (Or.inl rfl)) R2 (by omega) (by omega)
  rw [wk_eq g2] at R3
  have hKm : ∀ t u, some u ∈ wk S (yB Y) t → u < 80 := fun t u hu => Nat.lt_of_lt_of_le (kids_lt hG (mem_wk.mp hu).1) h80
  obtain ⟨D, eD⟩ := clo_pre (wk S (yB Y)) (80 - 0) 0 L2
  have hsub : ∀ t ∈ L2, t ∈ clo (wk S (yB Y)) (80 - 0) 0 L2 := fun t ht => by rw [eD]; exact List.mem_append_left _ ht
  unfold m_Nur_findYoung
  rw [o1_e e0, o1_e (show m_Nur_findYoung_L9 200 T0 0 = some T1 from e1), o1_e (show m_Nur_findYoung_L35 200 T1 0 = some T2 from e2), o1_e (show m_Nur_findYoung_L70 200 T2 0 = some T3 from e3)]
  refine ⟨T3, _, rfl, ((F0.tr F1).tr F2).tr F3, R3, ?_, fun r t hr h1 hy => ?_, fun t ht u hu hy => ?_⟩
  · exact clo_min _ (fun t => t ∈ Y) (fun t _ u hu => of_decide_eq_true (mem_wk.mp hu).2) _ _ _ k2
  · refine hsub t (k1 t (mem_addsL.mpr (Or.inr ?_)))
    exact mem_rtw.mpr ⟨⟨r, hr, by rw [g0.r]; exact h1⟩, decide_eq_true hy⟩
  · rcases ht with q | q
    · exact hsub u (k3 t (Nat.zero_le _) (by rw [g1.c]; exact hOc t q) q u (by rw [kids_eq g1]; exact hu) hy)
    · exact clo_closed (wk S (yB Y)) 80 hKm (80 - 0) 0 L2 R2.1 R2.2.1 (by omega) (fun j hj => by omega) t q u (mem_wk.mpr ⟨hu, decide_eq_true hy⟩)
