/-! store 0 -/
theorem nodup_snoc {L : List Nat} {t : Nat} (h : L.Nodup) (ht : t ∉ L) : (L ++ [t]).Nodup := by
  have := addL_nodup (o := some t) h
  rw [addL_s, if_neg ht] at this
  exact this
theorem take_snoc {i x : Nat} : ∀ {R : List Nat}, R[i]? = some x → R.take (i + 1) = R.take i ++ [x] := by
  induction i with
  | zero =>
    intro R h
    cases R with
    | nil => cases h
    | cons a l => simp at h; simp [h]
  | succ i ih =>
    intro R h
    cases R with
    | nil => cases h
    | cons a l =>
      have := ih (R := l) (by simpa using h)
      rw [List.take_succ_cons, List.take_succ_cons, this]; rfl
theorem take_not {i x : Nat} {R : List Nat} (hn : R.Nodup) (h : R[i]? = some x) : x ∉ R.take i := by
  have h1 : (R.take (i + 1)).Nodup := hn.sublist (List.take_sublist _ _)
  rw [take_snoc h, List.nodup_append] at h1
  intro hx
  exact h1.2.2 x hx x (List.mem_singleton.mpr rfl) rfl
theorem lw_le {S : St} (hG : GW S) {L : List Nat} (hn : L.Nodup) (hl : ∀ t ∈ L, t < cN S) : lsum (wN S) L ≤ 320 := by
  rw [lsum_sm _ (cN S) L hn hl]
  have h80 := hG.2.1
  have := sm_le (f := fun t => if t ∈ L then wN S t else 0) (c := 4) (n := cN S) (fun i hi => by
    split
    · exact wN_le hG hi
    · omega)
  omega
theorem u_split {S : St} {k : Nat} (hG : GW S) (hR : RH S k) : sm (had1 S k) (cN S) = sm (hadU S k) (cN S) + (rcL S).length := by
  rw [← lsum_1 (rcL S), lsum_sm _ (cN S) _ (rc_nodup S) (rc_lt hG), ← sm_add]
  refine sm_congr (fun i hi => ?_)
  unfold had1 hadU
  by_cases h : i ∈ rcL S
  · rw [if_pos (hR i h), if_neg (fun z => z.2 h), if_pos h]
  · by_cases hb : hB S k i = true
    · rw [if_pos hb, if_pos ⟨hb, h⟩, if_neg h]
    · rw [if_neg hb, if_neg (fun z => hb z.1), if_neg h]
theorem r_sum {S : St} {k : Nat} (hG : GW S) (hR : RH S k) : sm (hadR S k) (cN S) = lsum (wN S) (rcL S) := by
  rw [lsum_sm _ (cN S) _ (rc_nodup S) (rc_lt hG)]
  refine sm_congr (fun i hi => ?_)
  unfold hadR
  by_cases h : i ∈ rcL S
  · rw [if_pos ⟨hR i h, h⟩, if_pos h]
  · rw [if_neg (fun z => h z.2), if_neg h]
theorem u_zero {S : St} {k : Nat} (h : ∀ t, t < cN S → hB S k t = true → t ∈ rcL S) : sm (hadU S k) (cN S) = 0 := by
  rw [sm_congr (g := fun _ => 0) (fun i hi => ?_), sm_zero]
  unfold hadU
  exact if_neg (fun z => z.2 (h i hi z.1))
theorem h1_list {S : St} {k : Nat} (hG : GW S) {L : List Nat} (hn : L.Nodup) (hl : ∀ t ∈ L, t < cN S) (hb : ∀ t, t < 80 → hB S k t = decide (t ∈ L)) : sm (had1 S k) (cN S) = L.length := by
  rw [← lsum_1 L, lsum_sm _ (cN S) _ hn hl]
  have h80 := hG.2.1
  refine sm_congr (fun i hi => ?_)
  unfold had1
  rw [hb i (by omega)]
  by_cases h : i ∈ L
  · rw [decide_eq_true h, if_pos rfl, if_pos h]
  · rw [decide_eq_false h, if_neg (by decide), if_neg h]
def bse (S : St) (M : Nat) : Nat := if S 12 10 = 0 then 0 else M / 2
def CoQ (S : St) (b : Nat) (L : List Nat) : Prop := L.Nodup ∧ (∀ t ∈ L, t < cN S) ∧ (∀ t, t < 80 → hB S 12 t = decide (t ∈ L)) ∧ S 12 11 = nI (lsum (wN S) L) ∧
  (∀ t ∈ L, S 14 t = nI (pl S 12 t) ∧ b ≤ pl S 12 t ∧ pl S 12 t + wN S t ≤ b + lsum (wN S) L) ∧ ∀ t ∈ L, ∀ u ∈ L, t ≠ u → pl S 12 t + wN S t ≤ pl S 12 u ∨ pl S 12 u + wN S u ≤ pl S 12 t
def fC (a j : Nat) : Prop := a = 13 ∨ a = 14 ∨ (a = 12 ∧ j = 11)
theorem s_putBehind {S : St} {b M : Nat} {L : List Nat} (hG : GW S) (hQ : CoQ S b L) (hM : S 12 1 = nI M) (hM2 : M < 200) (hb : b = bse S M) {t : Nat} (ht : t < cN S) (htL : t ∉ L) :
    ∃ T, m_Cop_putBehind S (nI t) = some T ∧ Fr fC S T ∧ CoQ T b (L ++ [t]) := by
  obtain ⟨h1, h2, h3, h4, h5, h6⟩ := hQ
  have h80 := hG.2.1
  have hU : lsum (wN S) L ≤ 320 := lw_le hG h1 h2
  have g1 : GEq S (u2 (u2 S (12 + 1) t 1) (12 + 2) t (nI (b + lsum (wN S) L))) := ⟨rfl, fun _ => rfl, fun _ => rfl, fun _ => rfl⟩
  have e : m_Cop_putBehind S (nI t) = some (u2 (u2 (u2 S (12 + 1) t 1) (12 + 2) t (nI (b + lsum (wN S) L))) 12 11 (nI (lsum (wN S) L + wN S t))) := by
    have e1 : u2 (u2 S (12 + 1) t 1) (12 + 2) t (nI (b + lsum (wN S) L)) 12 11 = nI (lsum (wN S) L) := by rw [u2_n (by omega), u2_n (by omega), h4]
    have e2 := s_wordsN (hG.eq g1) (t := t) (by rw [g1.c]; exact ht)
    rw [wN_eq g1] at e2
    unfold m_Cop_putBehind
    unfold bse at hb
    by_cases h10 : S 12 10 = 0
    · rw [if_pos h10] at hb
      rw [if_pos h10, h4, show (0 : Int32) = nI 0 from rfl, nI_add, show 0 + lsum (wN S) L = b + lsum (wN S) L by rw [hb], o1_e (s_put 12 0 hG ht _), o1_e e2, e1, nI_add]
    · rw [if_neg h10] at hb
      rw [if_neg h10, hM, h4, show (2 : Int32) = nI 2 from rfl, pk_div (by omega) (by omega) (by omega), nI_add, ← hb, o1_e (s_put 12 0 hG ht _), o1_e e2, e1, nI_add]
  have g2 : GEq S (u2 (u2 (u2 S (12 + 1) t 1) (12 + 2) t (nI (b + lsum (wN S) L))) 12 11 (nI (lsum (wN S) L + wN S t))) := ⟨rfl, fun _ => rfl, fun _ => rfl, fun _ => rfl⟩
  refine ⟨_, e, ?_, ?_⟩
  · exact (((Fr.u2 _ _ _ _).mono (fun a j h => by unfold fC; omega)).tr ((Fr.u2 _ _ _ _).mono (fun a j h => by unfold fC; omega))).tr ((Fr.u2 _ _ _ _).mono (fun a j h => by unfold fC; omega))
  · generalize hT : u2 (u2 (u2 S (12 + 1) t 1) (12 + 2) t (nI (b + lsum (wN S) L))) 12 11 (nI (lsum (wN S) L + wN S t)) = T at g2 ⊢
    have p1 : T 14 t = nI (b + lsum (wN S) L) := by rw [← hT, u2_n (by omega)]; exact u2_e _ _ _ _
    have p2 : ∀ u, u ≠ t → T 14 u = S 14 u := fun u hu => by rw [← hT, u2_n (by omega), u2_n (by omega), u2_n (by omega)]
    have p3 : ∀ u, u ≠ t → T 13 u = S 13 u := fun u hu => by rw [← hT, u2_n (by omega), u2_n (by omega), u2_n (by omega)]
    have p4 : T 13 t = 1 := by rw [← hT, u2_n (by omega), u2_n (by omega)]; exact u2_e _ _ _ _
    have p5 : T 12 11 = nI (lsum (wN S) L + wN S t) := by rw [← hT, u2_e]
    have hbM : b ≤ 100 := by
      rw [hb]; unfold bse; split <;> omega
    have q1 : pl T 12 t = b + lsum (wN S) L := by unfold pl; rw [show T (12 + 2) t = T 14 t from rfl, p1, n_cl (by omega)]
    have q2 : ∀ u, u ≠ t → pl T 12 u = pl S 12 u := fun u hu => by unfold pl; rw [show T (12 + 2) u = T 14 u from rfl, p2 u hu]
    have hne : ∀ u ∈ L, u ≠ t := fun u hu q => htL (q ▸ hu)
    refine ⟨nodup_snoc h1 htL, fun u hu => ?_, fun u hu => ?_, ?_, fun u hu => ?_, fun u hu v hv huv => ?_⟩
    · rw [g2.c]
      rcases List.mem_append.mp hu with q | q
      · exact h2 u q
      · rw [List.mem_singleton.mp q]; exact ht
    · by_cases hut : u = t
      · subst hut
        rw [decide_eq_true (List.mem_append_right _ (List.mem_singleton.mpr rfl)), hB_t, show T (12 + 1) u = T 13 u from rfl, p4]; decide
      · have : hB T 12 u = hB S 12 u := by unfold hB; rw [show T (12 + 1) u = T 13 u from rfl, p3 u hut]
        rw [this, h3 u hu]
        simp [hut]
    · rw [p5, wN_eq g2, lsum_a, lsum_c, lsum_n]; rfl
    · rw [wN_eq g2, lsum_a, lsum_c, lsum_n]
      rcases List.mem_append.mp hu with q | q
      · obtain ⟨a, b1, c⟩ := h5 u q
        rw [q2 u (hne u q), p2 u (hne u q)]
        exact ⟨a, b1, by omega⟩
      · rw [List.mem_singleton.mp q, q1, p1]
        exact ⟨rfl, by omega, by omega⟩
    · rw [wN_eq g2]
      rcases List.mem_append.mp hu with q | q
      · rcases List.mem_append.mp hv with r | r
        · rw [q2 u (hne u q), q2 v (hne v r)]
          exact h6 u q v r huv
        · rw [List.mem_singleton.mp r, q1, q2 u (hne u q)]
          exact Or.inl (h5 u q).2.2
      · rcases List.mem_append.mp hv with r | r
        · rw [List.mem_singleton.mp q, q1, q2 v (hne v r)]
          exact Or.inr (h5 v r).2.2
        · exact absurd ((List.mem_singleton.mp q).trans (List.mem_singleton.mp r).symm) huv
theorem s_coL (R : List Nat) (b M : Nat) (hM2 : M < 200) : ∀ (n i : Nat) (S : St), GW S → RowIs S 15 R → (∀ t ∈ R, t < cN S) → CoQ S b (R.take i) → S 12 1 = nI M → b = bse S M → i ≤ R.length → R.length - i < n →
    ∃ T, m_Cop_collectNow_L44 n S (nI i) = some T ∧ Fr fC S T ∧ CoQ T b R := by
  intro n
  induction n with
  | zero => intro i S _ _ _ _ _ _ h1 h2; omega
  | succ n ih =>
    intro i S hG hR hl hQ hM hb h1 h2
    have hlen := hR.len
    rw [m_Cop_collectNow_L44, hR.2.2.1]
    by_cases hi : R.length ≤ i
    · rw [if_pos (by rw [n_le (by omega) (by omega)]; exact hi)]
      rw [List.take_of_length_le hi] at hQ
      exact ⟨S, rfl, Fr.rfl', hQ⟩
    · rw [if_neg (by rw [n_le (by omega) (by omega)]; exact hi), o1_e (s_get hR i (by omega))]
      obtain ⟨x, hx⟩ : ∃ x, R[i]? = some x := ⟨R[i]'(by omega), List.getElem?_eq_getElem (by omega)⟩
      obtain ⟨T, e, F, Q⟩ := s_putBehind hG hQ hM hM2 hb (hl x (List.mem_of_getElem? hx)) (take_not hR.1 hx)
      rw [hx, oI_s, o1_e e, nI_1]
      have g := GEq.of F (fun a j q => by unfold fC at q; omega)
      rw [← take_snoc hx] at Q
      obtain ⟨U, e2, F2, Q2⟩ := ih (i + 1) T (hG.eq g) (hR.fr F (fun a j q z => by unfold rowP at q; unfold fC at z; omega)) (fun t ht => by rw [g.c]; exact hl t ht) Q
        ((F 12 1 (by unfold fC; omega)).trans hM) (by unfold bse at hb ⊢; rw [F 12 10 (by unfold fC; omega)]; exact hb) (by omega) (by omega)
      exact ⟨U, e2, F.tr F2, Q2⟩
def CoI (S : St) (M : Nat) : Prop := S 12 1 = nI M ∧ (S 12 5 ≠ 0 → ∀ t, t < 80 → hB S 12 t = false) ∧ (S 12 5 = 0 → ∃ L, CoQ S (bse S M) L ∧ lsum (wN S) L ≤ M / 2 ∧ ∀ t ∈ rcL S, t ∈ L)
def fCo (a j : Nat) : Prop := (12 < a ∧ a < 18) ∨ (a = 12 ∧ (j = 2 ∨ j = 4 ∨ j = 5 ∨ j = 10 ∨ j = 11))
theorem geq_Co {S T : St} (F : Fr fCo S T) : GEq S T := GEq.of F (fun a j q => by unfold fCo at q; omega)
theorem CoQ.rh {S : St} {b : Nat} {L : List Nat} (hG : GW S) (h : CoQ S b L) (hr : ∀ t ∈ rcL S, t ∈ L) : RH S 12 := fun t ht => by
  rw [h.2.2.1 t (Nat.lt_of_lt_of_le (rc_lt hG t ht) hG.2.1)]
  exact decide_eq_true (hr t ht)
theorem s_coCollect {S : St} {M W : Nat} (hG : GI S) (hI : CoI S M) (hM2 : M < 200) (hbr : S 12 5 = 0) (hW : S 12 2 = nI W) :
    ∃ T, m_Cop_collectNow S = some (nI (sm (hadU S 12) (cN S)), T) ∧ Fr fCo S T ∧ CoI T M ∧ T 12 5 = 0 ∧ T 12 2 = nI (W + sm (hadR S 12) (cN S)) ∧ (∀ t, t < 80 → hB T 12 t = decide (t ∈ rcL S)) ∧
      CoQ T (bse T M) (rcL S) ∧ lsum (wN S) (rcL S) ≤ M / 2 := by
  obtain ⟨h1, h2, h3⟩ := hI
  obtain ⟨L, hQ, hL, hr⟩ := h3 hbr
  have hw := hG.1
  have hRH := hQ.rh hw hr
  have hcount := h1_list hw hQ.1 hQ.2.1 hQ.2.2.1
  have hsplit := u_split hw hRH
  have hlR : lsum (wN S) (rcL S) ≤ M / 2 := Nat.le_trans (lsum_sub (rc_nodup S) hQ.1 hQ.2.1 hr) hL
  obtain ⟨T1, e1, F1, R1⟩ := s_trace (q := 15) (by omega) hw (-1)
  have g1 := GEq.row F1 (by omega)
  obtain ⟨T2, e2, F2, hno⟩ := s_letAll 12 0 T1
  have g2 := GEq.of F2 (fun a j q => by omega)
  have gg := g1.trans g2
  have R2 : RowIs T2 15 (rcL S) := R1.fr F2 (fun a j q z => by unfold rowP at q; omega)
  have k1 : ∀ j, T2 12 j = S 12 j := fun j => (F2 12 j (by omega)).trans (F1 12 j (by unfold rowP; omega))
  have main : ∀ v : Int32, (v = 0 ∨ v = 1) → ∃ U, m_Cop_collectNow_L44 200 (u2 (u2 T2 12 10 v) 12 11 0) 0 = some U ∧ Fr fC (u2 (u2 T2 12 10 v) 12 11 0) U ∧ CoQ U (if v = 0 then 0 else M / 2) (rcL S) := by
    intro v hv
    have g3 : GEq T2 (u2 (u2 T2 12 10 v) 12 11 0) := ⟨rfl, fun _ => rfl, fun _ => rfl, fun _ => rfl⟩
    have F3 : Fr (fun a _ => a = 12) T2 (u2 (u2 T2 12 10 v) 12 11 0) := ((Fr.u2 _ _ _ _).mono (fun a j h => h.1)).tr ((Fr.u2 _ _ _ _).mono (fun a j h => h.1))
    have hlen := R2.len
    refine s_coL (rcL S) _ M hM2 200 0 _ ((hw.eq gg).eq g3) (R2.fr F3 (fun a j q z => by unfold rowP at q; omega)) (fun t ht => by rw [g3.c, gg.c]; exact rc_lt hw t ht) ?_ ?_ ?_ (Nat.zero_le _) (by omega)
    · rw [List.take_zero]
      refine ⟨List.nodup_nil, fun t h => (by cases h), fun t ht => ?_, by rw [u2_e]; rfl, fun t h => (by cases h), fun t h => (by cases h)⟩
      have : hB (u2 (u2 T2 12 10 v) 12 11 0) 12 t = hB T2 12 t := hB_eq (fun j => F3 _ _ (by omega)) t
      rw [this, hno t ht]; rfl
    · rw [u2_n (by omega), u2_n (by omega), k1, h1]
    · unfold bse
      rw [u2_n (by omega), u2_e]
  have fin : ∀ (v : Int32) (U : St), (v = 0 ∨ v = 1) → Fr fC (u2 (u2 T2 12 10 v) 12 11 0) U → CoQ U (if v = 0 then 0 else M / 2) (rcL S) →
      (nI (sm (had1 S 12) (cN S)) - U 15 2 = nI (sm (hadU S 12) (cN S))) ∧ Fr fCo S (u2 (u2 U 12 2 (U 12 2 + U 12 11)) 12 4 (U 12 4 + 1)) ∧ CoI (u2 (u2 U 12 2 (U 12 2 + U 12 11)) 12 4 (U 12 4 + 1)) M ∧
      (u2 (u2 U 12 2 (U 12 2 + U 12 11)) 12 4 (U 12 4 + 1)) 12 5 = 0 ∧ (u2 (u2 U 12 2 (U 12 2 + U 12 11)) 12 4 (U 12 4 + 1)) 12 2 = nI (W + sm (hadR S 12) (cN S)) ∧
      (∀ t, t < 80 → hB (u2 (u2 U 12 2 (U 12 2 + U 12 11)) 12 4 (U 12 4 + 1)) 12 t = decide (t ∈ rcL S)) ∧ CoQ (u2 (u2 U 12 2 (U 12 2 + U 12 11)) 12 4 (U 12 4 + 1)) (bse (u2 (u2 U 12 2 (U 12 2 + U 12 11)) 12 4 (U 12 4 + 1)) M) (rcL S) := by
    intro v U hv FU QU
    have F4 : Fr fCo S U := by
      have a1 : Fr fCo S T1 := F1.mono (fun a j q => by unfold rowP at q; unfold fCo; omega)
      have a2 : Fr fCo T1 T2 := F2.mono (fun a j q => by unfold fCo; omega)
      have a3 : Fr fCo T2 (u2 (u2 T2 12 10 v) 12 11 0) := ((Fr.u2 _ _ _ _).mono (fun a j h => by unfold fCo; omega)).tr ((Fr.u2 _ _ _ _).mono (fun a j h => by unfold fCo; omega))
      have a4 : Fr fCo (u2 (u2 T2 12 10 v) 12 11 0) U := FU.mono (fun a j q => by unfold fC at q; unfold fCo; omega)
      exact ((a1.tr a2).tr a3).tr a4
    have gU := geq_Co F4
    have z15 : U 15 2 = nI (rcL S).length := by
      rw [FU 15 2 (by unfold fC; omega), u2_n (by omega), u2_n (by omega)]; exact R2.2.2.1
    have zc : ∀ j, j ≠ 10 → j ≠ 11 → U 12 j = S 12 j := fun j h h' => by
      rw [FU 12 j (by unfold fC; omega), u2_n (by omega), u2_n (by omega), k1]
    have z10 : U 12 10 = v := by rw [FU 12 10 (by unfold fC; omega), u2_n (by omega), u2_e]
    generalize hT : u2 (u2 U 12 2 (U 12 2 + U 12 11)) 12 4 (U 12 4 + 1) = T
    have FT : Fr (fun a j => a = 12 ∧ (j = 2 ∨ j = 4)) U T := by
      rw [← hT]
      exact ((Fr.u2 _ _ _ _).mono (fun a j h => by omega)).tr ((Fr.u2 _ _ _ _).mono (fun a j h => by omega))
    have gT := GEq.of FT (fun a j q => by omega)
    have hbT : bse T M = if v = 0 then 0 else M / 2 := by
      unfold bse
      rw [FT 12 10 (by omega), z10]
    have QT : CoQ T (bse T M) (rcL S) := by
      rw [hbT]
      obtain ⟨a1, a2, a3, a4, a5, a6⟩ := QU
      have hp : ∀ t, pl T 12 t = pl U 12 t := fun t => by unfold pl; rw [FT (12 + 2) t (by omega)]
      refine ⟨a1, fun t ht => by rw [gT.c]; exact a2 t ht, fun t ht => by rw [hB_eq (fun j => FT _ _ (by omega)) t]; exact a3 t ht, by rw [FT 12 11 (by omega), wN_eq gT]; exact a4, fun t ht => ?_, fun t ht u hu htu => ?_⟩
      · rw [hp, wN_eq gT, FT 14 t (by omega)]; exact a5 t ht
      · rw [hp, hp, wN_eq gT]; exact a6 t ht u hu htu
    have gST := gU.trans gT
    have t5 : T 12 5 = 0 := by rw [FT 12 5 (by omega), zc 5 (by omega) (by omega), hbr]
    refine ⟨?_, F4.tr (FT.mono (fun a j q => by unfold fCo; omega)), ⟨?_, fun q => absurd t5 q, fun _ => ⟨rcL S, QT, ?_, fun t ht => ?_⟩⟩, t5, ?_, QT.2.2.1, QT⟩
    · rw [z15, hsplit, pk_sub (by omega), Nat.add_sub_cancel]
    · rw [FT 12 1 (by omega), zc 1 (by omega) (by omega), h1]
    · rw [wN_eq gST]; exact hlR
    · rw [rcL_eq gST] at ht; exact ht
    · rw [← hT, u2_n (by omega), u2_e, zc 2 (by omega) (by omega), hW, QU.2.2.2.1, nI_add, wN_eq gU, r_sum hw hRH]
  unfold m_Cop_collectNow
  rw [o1_e (s_countHad 12 0 hw), o1_e e1, o1_e e2]
  by_cases h10 : T2 12 10 = 0
  · rw [if_pos h10]
    obtain ⟨U, e3, FU, QU⟩ := main 1 (Or.inr rfl)
    rw [o1_e e3]
    obtain ⟨a1, a2, a3, a4, a5, a6, a7⟩ := fin 1 U (Or.inr rfl) FU QU
    exact ⟨_, by rw [a1], a2, a3, a4, a5, a6, a7, hlR⟩
  · rw [if_neg h10]
    obtain ⟨U, e3, FU, QU⟩ := main 0 (Or.inl rfl)
    rw [o1_e e3]
    obtain ⟨a1, a2, a3, a4, a5, a6, a7⟩ := fin 0 U (Or.inl rfl) FU QU
    exact ⟨_, by rw [a1], a2, a3, a4, a5, a6, a7, hlR⟩
theorem s_coBreak {S : St} {M : Nat} (h1 : S 12 1 = nI M) : ∃ T, m_St_breakDown_Cop S = some T ∧ Fr fCo S T ∧ CoI T M ∧ T 12 5 ≠ 0 ∧ T 12 2 = S 12 2 := by
  obtain ⟨T1, e1, F1, hno⟩ := s_letAll 12 0 (u2 S 12 5 1)
  unfold m_St_breakDown_Cop m_Cop_forgetThings
  rw [o1_e e1]
  have F : Fr fCo S (u2 (u2 T1 12 10 0) 12 11 0) := by
    have a1 : Fr fCo S (u2 S 12 5 1) := (Fr.u2 _ _ _ _).mono (fun a j h => by unfold fCo; omega)
    have a2 : Fr fCo (u2 S 12 5 1) T1 := F1.mono (fun a j h => by unfold fCo; omega)
    exact ((a1.tr a2).tr ((Fr.u2 _ _ _ _).mono (fun a j h => by unfold fCo; omega))).tr ((Fr.u2 _ _ _ _).mono (fun a j h => by unfold fCo; omega))
  have z5 : (u2 (u2 T1 12 10 0) 12 11 0) 12 5 = 1 := by rw [u2_n (by omega), u2_n (by omega), F1 12 5 (by omega), u2_e]
  refine ⟨_, rfl, F, ⟨(F 12 1 (by unfold fCo; omega)).trans h1, fun _ t ht => ?_, fun q => ?_⟩, ?_, ?_⟩
  · rw [show hB (u2 (u2 T1 12 10 0) 12 11 0) 12 t = hB T1 12 t from hB_eq (fun j => by rw [u2_n (by omega), u2_n (by omega)]) t]; exact hno t ht
  · rw [z5] at q; exact absurd q (by decide)
  · rw [z5]; decide
  · rw [u2_n (by omega), u2_n (by omega), F1 12 2 (by omega), u2_n (by omega)]
theorem s_coPlace {S : St} {M W t : Nat} (hG : GI S) (hI : CoI S M) (hM1 : 40 ≤ M) (hM2 : M < 200) (hbr : S 12 5 = 0) (hW : S 12 2 = nI W) (ht : t < cN S) (htr : t ∉ rcL S) (hth : hB S 12 t = false) :
    ∃ T, m_Cop_placeNew S (nI t) = some T ∧ Fr fCo S T ∧ CoI T M ∧ (T 12 5 = 0 → hB T 12 t = true) ∧ ∃ W', T 12 2 = nI W' ∧ W ≤ W' ∧ W' ≤ W + 320 := by
  have hw := hG.1
  have h80 := hw.2.1
  have hw4 := wN_le hw ht
  obtain ⟨h1, h2, h3⟩ := hI
  obtain ⟨L, hQ, hL, hr⟩ := h3 hbr
  have put : ∀ (U : St) (K : List Nat), Fr fCo S U → U 12 5 = 0 → CoQ U (bse U M) K → (∀ u ∈ rcL S, u ∈ K) → t ∉ K → lsum (wN S) K + wN S t ≤ M / 2 →
      ∃ T, m_Cop_putBehind U (nI t) = some T ∧ Fr fCo S T ∧ CoI T M ∧ (T 12 5 = 0 → hB T 12 t = true) ∧ T 12 2 = U 12 2 := by
    intro U K FU hU5 hQU hrK htK hle
    have gU := geq_Co FU
    have hU1 : U 12 1 = nI M := (FU 12 1 (by unfold fCo; omega)).trans h1
    obtain ⟨T, e, F, Q⟩ := s_putBehind (hw.eq gU) hQU hU1 hM2 rfl (t := t) (by rw [gU.c]; exact ht) htK
    have hbs : bse T M = bse U M := by unfold bse; rw [F 12 10 (by unfold fC; omega)]
    have gT := gU.trans (GEq.of F (fun a j q => by unfold fC at q; omega))
    have t5 : T 12 5 = 0 := (F 12 5 (by unfold fC; omega)).trans hU5
    rw [← hbs] at Q
    refine ⟨T, e, FU.tr (F.mono (fun a j q => by unfold fC at q; unfold fCo; omega)), ⟨(F 12 1 (by unfold fC; omega)).trans hU1, fun q => absurd t5 q, fun _ => ⟨K ++ [t], Q, ?_, fun u hu => ?_⟩⟩, fun _ => ?_, F 12 2 (by unfold fC; omega)⟩
    · rw [wN_eq gT, lsum_a, lsum_c, lsum_n]; exact hle
    · rw [rcL_eq gT] at hu; exact List.mem_append_left _ (hrK u hu)
    · rw [Q.2.2.1 t (by omega)]; exact decide_eq_true (List.mem_append_right _ (List.mem_singleton.mpr rfl))
  have htL : t ∉ L := fun q => by
    rw [hQ.2.2.1 t (by omega), decide_eq_true q] at hth; cases hth
  unfold m_Cop_placeNew m_Cop_freeTogether
  rw [o1_e (s_wordsN hw ht)]
  simp only [o1_e rfl]
  rw [h1, hQ.2.2.2.1, show (2 : Int32) = nI 2 from rfl, pk_div (by omega) (by omega) (by omega), pk_sub hL]
  by_cases hc : wN S t ≤ M / 2 - lsum (wN S) L
  · rw [if_pos (by rw [n_le (by omega) (by omega)]; exact hc), if_pos (by rw [n_le (by omega) (by omega)]; exact hc)]
    obtain ⟨T, e, F, hT, h4, h5⟩ := put S L Fr.rfl' hbr hQ hr htL (by omega)
    rw [o1_e e]
    exact ⟨T, rfl, F, hT, h4, W, h5.trans hW, by omega, by omega⟩
  · rw [if_neg (by rw [n_le (by omega) (by omega)]; exact hc)]
    obtain ⟨U, e, F, hU, u5, u2', hb, QU, hle⟩ := s_coCollect hG ⟨h1, h2, h3⟩ hM2 hbr hW
    have gU := geq_Co F
    have hRH := hQ.rh hw hr
    have hsum : sm (hadR S 12) (cN S) ≤ 320 := by
      rw [r_sum hw hRH]; exact lw_le hw (rc_nodup S) (rc_lt hw)
    rw [ob_e e, hU.1, QU.2.2.2.1, wN_eq gU, pk_div (by omega) (by omega) (by omega), pk_sub hle]
    by_cases hc2 : wN S t ≤ M / 2 - lsum (wN S) (rcL S)
    · rw [if_pos (by rw [n_le (by omega) (by omega)]; exact hc2)]
      obtain ⟨T, e2, F2, hT, h4, h5⟩ := put U (rcL S) F u5 QU (fun u hu => hu) htr (by omega)
      rw [o1_e e2]
      exact ⟨T, rfl, F2, hT, h4, _, h5.trans u2', by omega, by omega⟩
    · rw [if_neg (by rw [n_le (by omega) (by omega)]; exact hc2)]
      obtain ⟨T, e2, F2, hT, h4, h5⟩ := s_coBreak hU.1
      rw [o1_e e2]
      exact ⟨T, rfl, F.tr F2, hT, fun q => absurd q h4, _, h5.trans u2', by omega, by omega⟩
theorem CoI.tr {S T : St} {M : Nat} (hI : CoI S M) (hT : GW T) (hc : cN S ≤ cN T) (hw : ∀ t, t < cN S → wN T t = wN S t) (h13 : ∀ j, T 13 j = S 13 j) (h14 : ∀ j, T 14 j = S 14 j)
    (h1 : T 12 1 = S 12 1) (h5 : T 12 5 = S 12 5) (h10 : T 12 10 = S 12 10) (h11 : T 12 11 = S 12 11) (hr : S 12 5 = 0 → ∀ t ∈ rcL T, t ∈ rcL S ∨ hB S 12 t = true) : CoI T M := by
  have hhb : ∀ t, hB T 12 t = hB S 12 t := fun t => hB_eq h13 t
  have hp : ∀ t, pl T 12 t = pl S 12 t := fun t => by unfold pl; rw [show T (12 + 2) t = T 14 t from rfl, h14]
  refine ⟨h1.trans hI.1, fun q t ht => ?_, fun q => ?_⟩
  · rw [hhb]; exact hI.2.1 (h5 ▸ q) t ht
  · have q' : S 12 5 = 0 := h5 ▸ q
    obtain ⟨L, ⟨a1, a2, a3, a4, a5, a6⟩, hL, hrL⟩ := hI.2.2 q'
    have e : lsum (wN T) L = lsum (wN S) L := lsum_congr (fun t ht => hw t (a2 t ht))
    have eb : bse T M = bse S M := by unfold bse; rw [h10]
    refine ⟨L, ⟨a1, fun t ht => Nat.lt_of_lt_of_le (a2 t ht) hc, fun t ht => by rw [hhb]; exact a3 t ht, by rw [h11, e]; exact a4, fun t ht => ?_, fun t ht u hu htu => ?_⟩, by rw [e]; exact hL, fun t ht => ?_⟩
    · rw [hp, h14, eb, e, hw t (a2 t ht)]; exact a5 t ht
    · rw [hp, hp, hw t (a2 t ht), hw u (a2 u hu)]; exact a6 t ht u hu htu
    · have h80 : t < 80 := Nat.lt_of_lt_of_le (rc_lt hT t ht) hT.2.1
      rcases hr q' t ht with z | z
      · exact hrL t z
      · rw [a3 t h80] at z; exact of_decide_eq_true z
theorem CoI.po {S : St} {M : Nat} (hG : GW S) (hI : CoI S M) : PO S 12 M ∧ HC S 12 ∧ (S 12 5 = 0 → RH S 12) := by
  have h80 := hG.2.1
  by_cases h5 : S 12 5 = 0
  · obtain ⟨L, ⟨a1, a2, a3, a4, a5, a6⟩, hL, hr⟩ := hI.2.2 h5
    have hb : bse S M ≤ M / 2 := by unfold bse; split <;> omega
    refine ⟨⟨fun t ht hh => ?_, fun t u ht hu htu h1 h2 => ?_⟩, fun t ht hh => ?_, fun _ => CoQ.rh hG ⟨a1, a2, a3, a4, a5, a6⟩ hr⟩
    · rw [a3 t (by omega)] at hh
      have := a5 t (of_decide_eq_true hh)
      exact ⟨this.1, by omega⟩
    · rw [a3 t (by omega)] at h1
      rw [a3 u (by omega)] at h2
      exact a6 t (of_decide_eq_true h1) u (of_decide_eq_true h2) htu
    · rw [a3 t ht] at hh
      exact a2 t (of_decide_eq_true hh)
  · have hno := hI.2.1 h5
    refine ⟨⟨fun t ht hh => ?_, fun t u ht hu htu h1 h2 => ?_⟩, fun t ht hh => ?_, fun q => absurd q h5⟩
    · rw [hno t (by omega)] at hh; cases hh
    · rw [hno t (by omega)] at h1; cases h1
    · rw [hno t ht] at hh; cases hh
