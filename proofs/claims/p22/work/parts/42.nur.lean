/-! store 1 -/
def PK (S : St) (k b : Nat) (L : List Nat) : Prop := (∀ t ∈ L, S (k + 2) t = nI (pl S k t) ∧ b ≤ pl S k t ∧ pl S k t + wN S t ≤ b + lsum (wN S) L) ∧
  ∀ t ∈ L, ∀ u ∈ L, t ≠ u → pl S k t + wN S t ≤ pl S k u ∨ pl S k u + wN S u ≤ pl S k t
theorem PK.nil (S : St) (k b : Nat) : PK S k b [] := ⟨fun t h => (by cases h), fun t h => (by cases h)⟩
theorem PK.eq {S T : St} {k b : Nat} {L : List Nat} (h : PK S k b L) (h2 : ∀ u ∈ L, T (k + 2) u = S (k + 2) u) (hw : ∀ u ∈ L, wN T u = wN S u) : PK T k b L := by
  have hp : ∀ u ∈ L, pl T k u = pl S k u := fun u hu => by unfold pl; rw [h2 u hu]
  refine ⟨fun t ht => ?_, fun t ht u hu htu => ?_⟩
  · rw [hp t ht, h2 t ht, hw t ht, lsum_congr hw]; exact h.1 t ht
  · rw [hp t ht, hp u hu, hw t ht, hw u hu]; exact h.2 t ht u hu htu
theorem PK.snoc {S T : St} {k b t : Nat} {L : List Nat} (h : PK S k b L) (ht : t ∉ L) (h1 : T (k + 2) t = nI (b + lsum (wN S) L)) (hb : b + lsum (wN S) L < 2147483648) (h2 : ∀ u, u ≠ t → T (k + 2) u = S (k + 2) u) (hw : wN T = wN S) : PK T k b (L ++ [t]) := by
  have q1 : pl T k t = b + lsum (wN S) L := by unfold pl; rw [h1, n_cl hb]
  have q2 : ∀ u, u ≠ t → pl T k u = pl S k u := fun u hu => by unfold pl; rw [h2 u hu]
  have hne : ∀ u ∈ L, u ≠ t := fun u hu q => ht (q ▸ hu)
  refine ⟨fun u hu => ?_, fun u hu v hv huv => ?_⟩
  · rw [hw, lsum_a, lsum_c, lsum_n]
    rcases List.mem_append.mp hu with q | q
    · obtain ⟨a, b1, c⟩ := h.1 u q
      rw [q2 u (hne u q), h2 u (hne u q)]
      exact ⟨a, b1, by omega⟩
    · rw [List.mem_singleton.mp q, q1, h1]
      exact ⟨rfl, by omega, by omega⟩
  · rw [hw]
    rcases List.mem_append.mp hu with q | q
    · rcases List.mem_append.mp hv with r | r
      · rw [q2 u (hne u q), q2 v (hne v r)]
        exact h.2 u q v r huv
      · rw [List.mem_singleton.mp r, q1, q2 u (hne u q)]
        exact Or.inl (h.1 u q).2.2
    · rcases List.mem_append.mp hv with r | r
      · rw [List.mem_singleton.mp q, q1, q2 v (hne v r)]
        exact Or.inr (h.1 v r).2.2
      · exact absurd ((List.mem_singleton.mp q).trans (List.mem_singleton.mp r).symm) huv
def NuQ (S : St) (M : Nat) (Y O : List Nat) : Prop := RowIs S 21 Y ∧ RowIs S 24 O ∧ (∀ t ∈ Y, t ∉ O) ∧ (∀ t ∈ Y, t < cN S) ∧ (∀ t ∈ O, t < cN S) ∧ (∀ t, t < 80 → (hB S 18 t = true ↔ t ∈ Y ∨ t ∈ O)) ∧
  S 18 15 = nI (lsum (wN S) Y) ∧ S 18 16 = nI (M / 4 + lsum (wN S) O) ∧ PK S 18 0 Y ∧ PK S 18 (M / 4) O
def fO1 (a j : Nat) : Prop := a = 19 ∨ a = 20 ∨ rowP 24 a j ∨ (a = 18 ∧ j = 16)
def fY1 (a j : Nat) : Prop := a = 19 ∨ a = 20 ∨ rowP 21 a j ∨ (a = 18 ∧ j = 15)
theorem addL_new {L : List Nat} {t : Nat} (h : t ∉ L) : addL L (some t) = L ++ [t] := by rw [addL_s, if_neg h]
theorem s_putOld {S : St} {M t : Nat} {Y O : List Nat} (hG : GW S) (hQ : NuQ S M Y O) (hM : M < 200) (ht : t < cN S) (hY : t ∉ Y) (hO : t ∉ O) : ∃ T, m_Nur_putOld S (nI t) = some T ∧ Fr fO1 S T ∧ NuQ T M Y (O ++ [t]) := by
  obtain ⟨a1, a2, a3, a4, a5, a6, a7, a8, a9, a10⟩ := hQ
  have h80 := hG.2.1
  have hU : lsum (wN S) O ≤ 320 := lw_le hG a2.1 a5
  obtain ⟨T1, e1, F1, R1⟩ := s_add a2 (some t) (b_s (by omega))
  rw [addL_new hO] at R1
  have g1 := GEq.row F1 (by omega)
  have z16 : T1 18 16 = nI (M / 4 + lsum (wN S) O) := (F1 18 16 (by unfold rowP; omega)).trans a8
  have g2 : GEq T1 (u2 (u2 T1 (18 + 1) t 1) (18 + 2) t (nI (M / 4 + lsum (wN S) O))) := ⟨rfl, fun _ => rfl, fun _ => rfl, fun _ => rfl⟩
  have e2 := s_wordsN ((hG.eq g1).eq g2) (t := t) (by rw [g2.c, g1.c]; exact ht)
  rw [wN_eq g2, wN_eq g1] at e2
  have e3 : (u2 (u2 T1 (18 + 1) t 1) (18 + 2) t (nI (M / 4 + lsum (wN S) O))) 18 16 = nI (M / 4 + lsum (wN S) O) := by rw [u2_n (by omega), u2_n (by omega), z16]
  unfold m_Nur_putOld
  rw [← oI_s t, o1_e e1, oI_s, z16, o1_e (s_put 18 0 (hG.eq g1) (by rw [g1.c]; exact ht) _), o1_e e2, e3, nI_add]
  generalize hT : u2 (u2 (u2 T1 (18 + 1) t 1) (18 + 2) t (nI (M / 4 + lsum (wN S) O))) 18 16 (nI (M / 4 + lsum (wN S) O + wN S t)) = T
  have FT : Fr (fun a j => (a = 19 ∧ j = t) ∨ (a = 20 ∧ j = t) ∨ (a = 18 ∧ j = 16)) T1 T := by
    rw [← hT]
    exact (((Fr.u2 _ _ _ _).mono (fun a j h => by omega)).tr ((Fr.u2 _ _ _ _).mono (fun a j h => by omega))).tr ((Fr.u2 _ _ _ _).mono (fun a j h => by omega))
  have t19 : T 19 t = 1 := by rw [← hT, u2_n (by omega), u2_n (by omega)]; exact u2_e _ _ _ _
  have t20 : T 20 t = nI (M / 4 + lsum (wN S) O) := by rw [← hT, u2_n (by omega)]; exact u2_e _ _ _ _
  have t16 : T 18 16 = nI (M / 4 + lsum (wN S) O + wN S t) := by rw [← hT, u2_e]
  have FS : Fr fO1 S T := (F1.mono (fun a j q => Or.inr (Or.inr (Or.inl q)))).tr (FT.mono (fun a j q => by unfold rowP; omega))
  have gg : GEq S T := GEq.of FS (fun a j q => by unfold fO1 rowP at q; omega)
  have n20 : ∀ u, u ≠ t → T 20 u = S 20 u := fun u hu => by rw [FT 20 u (by omega), F1 20 u (by unfold rowP; omega)]
  have n19 : ∀ u, u ≠ t → T 19 u = S 19 u := fun u hu => by rw [FT 19 u (by omega), F1 19 u (by unfold rowP; omega)]
  refine ⟨T, rfl, FS, a1.fr FS (fun a j q z => by unfold rowP at q; unfold fO1 rowP at z; omega), R1.fr FT (fun a j q z => by unfold rowP at q; omega), fun u hu => ?_, fun u hu => by rw [gg.c]; exact a4 u hu, fun u hu => ?_, fun u hu => ?_, ?_, ?_, ?_, ?_⟩
  · intro z
    rcases List.mem_append.mp z with q | q
    · exact a3 u hu q
    · exact hY (List.mem_singleton.mp q ▸ hu)
  · rw [gg.c]
    rcases List.mem_append.mp hu with q | q
    · exact a5 u q
    · rw [List.mem_singleton.mp q]; exact ht
  · by_cases hut : u = t
    · subst hut
      rw [hB_t, show T (18 + 1) u = T 19 u from rfl, t19]
      exact ⟨fun _ => Or.inr (List.mem_append_right _ (List.mem_singleton.mpr rfl)), fun _ => by decide⟩
    · rw [show hB T 18 u = hB S 18 u by unfold hB; rw [show T (18 + 1) u = T 19 u from rfl, n19 u hut], a6 u hu, List.mem_append, List.mem_singleton]
      exact ⟨fun z => z.elim Or.inl (fun y => Or.inr (Or.inl y)), fun z => z.elim Or.inl (fun y => y.elim Or.inr (fun x => absurd x hut))⟩
  · rw [wN_eq gg, FS 18 15 (by unfold fO1 rowP; omega)]; exact a7
  · rw [wN_eq gg, t16, lsum_a, lsum_c, lsum_n, Nat.add_zero, Nat.add_assoc]
  · exact a9.eq (fun u hu => n20 u (fun e => hY (e ▸ hu))) (fun u _ => by rw [wN_eq gg])
  · exact a10.snoc hO t20 (by omega) n20 (wN_eq gg)
theorem s_putYoung {S : St} {M t : Nat} {Y O : List Nat} (v : Int32) (hG : GW S) (hQ : NuQ S M Y O) (ht : t < cN S) (hY : t ∉ Y) (hO : t ∉ O) : ∃ T, m_Nur_putYoung S (nI t) v = some T ∧ Fr (fun a j => fY1 a j ∨ (a = 30 ∧ j = t)) S T ∧ NuQ T M (Y ++ [t]) O := by
  obtain ⟨a1, a2, a3, a4, a5, a6, a7, a8, a9, a10⟩ := hQ
  have h80 := hG.2.1
  have hU : lsum (wN S) Y ≤ 320 := lw_le hG a1.1 a4
  have F0 : Fr (fun a j => a = 30 ∧ j = t) S (u2 S 30 t (vp_nar .boolean v)) := Fr.u2 _ _ _ _
  have g0 : GEq S (u2 S 30 t (vp_nar .boolean v)) := ⟨rfl, fun _ => rfl, fun _ => rfl, fun _ => rfl⟩
  obtain ⟨T1, e1, F1, R1⟩ := s_add (a1.fr F0 (fun a j q z => by unfold rowP at q; omega)) (some t) (b_s (by omega))
  rw [addL_new hY] at R1
  have g1 := g0.trans (GEq.row F1 (by omega))
  have z15 : T1 18 15 = nI (lsum (wN S) Y) := by rw [F1 18 15 (by unfold rowP; omega), u2_n (by omega)]; exact a7
  have g2 : GEq T1 (u2 (u2 T1 (18 + 1) t 1) (18 + 2) t (nI (lsum (wN S) Y))) := ⟨rfl, fun _ => rfl, fun _ => rfl, fun _ => rfl⟩
  have e2 := s_wordsN ((hG.eq g1).eq g2) (t := t) (by rw [g2.c, g1.c]; exact ht)
  rw [wN_eq g2, wN_eq g1] at e2
  have e3 : (u2 (u2 T1 (18 + 1) t 1) (18 + 2) t (nI (lsum (wN S) Y))) 18 15 = nI (lsum (wN S) Y) := by rw [u2_n (by omega), u2_n (by omega), z15]
  unfold m_Nur_putYoung
  rw [o1_e (s_isThingN hG ht), if_neg (by decide), oi_t (n_in (by omega) (by omega))]
  simp only [n_cl (show t < 2147483648 by omega)]
  rw [← oI_s t, o1_e e1, oI_s, z15, o1_e (s_put 18 0 (hG.eq g1) (by rw [g1.c]; exact ht) _), o1_e e2, e3, nI_add]
  generalize hT : u2 (u2 (u2 T1 (18 + 1) t 1) (18 + 2) t (nI (lsum (wN S) Y))) 18 15 (nI (lsum (wN S) Y + wN S t)) = T
  have FT : Fr (fun a j => (a = 19 ∧ j = t) ∨ (a = 20 ∧ j = t) ∨ (a = 18 ∧ j = 15)) T1 T := by
    rw [← hT]
    exact (((Fr.u2 _ _ _ _).mono (fun a j h => by omega)).tr ((Fr.u2 _ _ _ _).mono (fun a j h => by omega))).tr ((Fr.u2 _ _ _ _).mono (fun a j h => by omega))
  have t19 : T 19 t = 1 := by rw [← hT, u2_n (by omega), u2_n (by omega)]; exact u2_e _ _ _ _
  have t20 : T 20 t = nI (0 + lsum (wN S) Y) := by rw [← hT, u2_n (by omega), Nat.zero_add]; exact u2_e _ _ _ _
  have t15 : T 18 15 = nI (lsum (wN S) Y + wN S t) := by rw [← hT, u2_e]
  have FS : Fr (fun a j => fY1 a j ∨ (a = 30 ∧ j = t)) S T := ((F0.mono (fun a j q => Or.inr q)).tr (F1.mono (fun a j q => Or.inl (Or.inr (Or.inr (Or.inl q)))))).tr (FT.mono (fun a j q => by unfold rowP; omega))
  have gg : GEq S T := GEq.of FS (fun a j q => by unfold fY1 rowP at q; omega)
  have n20 : ∀ u, u ≠ t → T 20 u = S 20 u := fun u hu => by rw [FT 20 u (by omega), F1 20 u (by unfold rowP; omega), u2_n (by omega)]
  have n19 : ∀ u, u ≠ t → T 19 u = S 19 u := fun u hu => by rw [FT 19 u (by omega), F1 19 u (by unfold rowP; omega), u2_n (by omega)]
  refine ⟨T, rfl, FS, R1.fr FT (fun a j q z => by unfold rowP at q; omega), a2.fr FS (fun a j q z => by unfold rowP at q; unfold fY1 rowP at z; omega), fun u hu => ?_, fun u hu => ?_, fun u hu => by rw [gg.c]; exact a5 u hu, fun u hu => ?_, ?_, ?_, ?_, ?_⟩
  · rcases List.mem_append.mp hu with q | q
    · exact a3 u q
    · rw [List.mem_singleton.mp q]; exact hO
  · rw [gg.c]
    rcases List.mem_append.mp hu with q | q
    · exact a4 u q
    · rw [List.mem_singleton.mp q]; exact ht
  · by_cases hut : u = t
    · subst hut
      rw [hB_t, show T (18 + 1) u = T 19 u from rfl, t19]
      exact ⟨fun _ => Or.inl (List.mem_append_right _ (List.mem_singleton.mpr rfl)), fun _ => by decide⟩
    · rw [show hB T 18 u = hB S 18 u by unfold hB; rw [show T (18 + 1) u = T 19 u from rfl, n19 u hut], a6 u hu, List.mem_append, List.mem_singleton]
      exact ⟨fun z => z.elim (fun y => Or.inl (Or.inl y)) Or.inr, fun z => z.elim (fun y => y.elim Or.inl (fun x => absurd x hut)) Or.inr⟩
  · rw [wN_eq gg, t15, lsum_a, lsum_c, lsum_n, Nat.add_zero]
  · rw [wN_eq gg, FS 18 16 (by unfold fY1 rowP; omega)]; exact a8
  · exact a9.snoc hY t20 (by omega) n20 (wN_eq gg)
  · exact a10.eq (fun u hu => n20 u (fun e => hO (e ▸ hu))) (fun u _ => by rw [wN_eq gg])
def NuI (S : St) (M : Nat) : Prop := S 18 1 = nI M ∧ (S 18 5 ≠ 0 → ∀ t, t < 80 → hB S 18 t = false) ∧ (S 18 5 = 0 → ∃ Y O, NuQ S M Y O ∧ lsum (wN S) Y ≤ M / 4 ∧ M / 4 + lsum (wN S) O ≤ M ∧ ∀ t ∈ rcL S, t ∈ Y ∨ t ∈ O)
def fNu (a j : Nat) : Prop := (18 < a ∧ a < 31) ∨ (a = 18 ∧ (j = 2 ∨ j = 4 ∨ j = 5 ∨ j = 9 ∨ j = 10 ∨ j = 15 ∨ j = 16))
theorem geq_Nu {S T : St} (F : Fr fNu S T) : GEq S T := GEq.of F (fun a j q => by unfold fNu at q; omega)
theorem fO1_Nu {a j : Nat} (h : fO1 a j) : fNu a j := by unfold fO1 rowP at h; unfold fNu; omega
theorem NuQ.fr {S T : St} {M : Nat} {Y O : List Nat} {P : Nat → Nat → Prop} (h : NuQ S M Y O) (g : GEq S T) (F : Fr P S T) (hP : ∀ a j, P a j → ¬ (a = 19 ∨ a = 20 ∨ rowP 21 a j ∨ rowP 24 a j ∨ (a = 18 ∧ (j = 15 ∨ j = 16)))) : NuQ T M Y O := by
  obtain ⟨a1, a2, a3, a4, a5, a6, a7, a8, a9, a10⟩ := h
  have hw : ∀ u, wN T u = wN S u := fun u => by rw [wN_eq g]
  have h20 : ∀ u, T 20 u = S 20 u := fun u => F _ _ (fun z => hP _ _ z (by omega))
  refine ⟨a1.fr F (fun a j q z => hP a j z (Or.inr (Or.inr (Or.inl q)))), a2.fr F (fun a j q z => hP a j z (Or.inr (Or.inr (Or.inr (Or.inl q))))), a3, fun t ht => by rw [g.c]; exact a4 t ht, fun t ht => by rw [g.c]; exact a5 t ht, fun t ht => ?_, ?_, ?_, a9.eq (fun u _ => h20 u) (fun u _ => hw u), a10.eq (fun u _ => h20 u) (fun u _ => hw u)⟩
  · rw [show hB T 18 t = hB S 18 t from hB_eq (fun j => F _ _ (fun z => hP _ _ z (by omega))) t]; exact a6 t ht
  · rw [wN_eq g, F _ _ (fun z => hP _ _ z (by omega))]; exact a7
  · rw [wN_eq g, F _ _ (fun z => hP _ _ z (by omega))]; exact a8
/-! the great collecting -/
theorem s_nuL32 (R : List Nat) (M : Nat) (hM : M < 200) : ∀ (n i : Nat) (S : St) (W : Nat), GW S → RowIs S 27 R → (∀ t ∈ R, t < cN S) → NuQ S M [] (R.take i) → S 18 2 = nI W → i ≤ R.length → R.length - i < n →
    ∃ T, m_Nur_collectNow_L32 n S (nI i) = some T ∧ Fr (fun a j => fO1 a j ∨ (a = 18 ∧ j = 2)) S T ∧ NuQ T M [] R ∧ T 18 2 = nI (W + lsum (wN S) (R.drop i)) := by
  intro n
  induction n with
  | zero => intro i S W _ _ _ _ _ h1 h2; omega
  | succ n ih =>
    intro i S W hG hR hl hQ hW h1 h2
    have hlen := hR.len
    rw [m_Nur_collectNow_L32, hR.2.2.1]
    by_cases hi : R.length ≤ i
    · rw [if_pos (by rw [n_le (by omega) (by omega)]; exact hi), List.drop_of_length_le hi]
      rw [List.take_of_length_le hi] at hQ
      exact ⟨S, rfl, Fr.rfl', hQ, hW⟩
    · obtain ⟨x, hx⟩ : ∃ x, R[i]? = some x := ⟨R[i]'(by omega), List.getElem?_eq_getElem (by omega)⟩
      have hxc := hl x (List.mem_of_getElem? hx)
      obtain ⟨T, e, F, Q⟩ := s_putOld hG hQ hM hxc List.not_mem_nil (take_not hR.1 hx)
      have g : GEq S T := GEq.of F (fun a j q => by unfold fO1 rowP at q; omega)
      have hRT : RowIs T 27 R := hR.fr F (fun a j q z => by unfold rowP at q; unfold fO1 rowP at z; omega)
      have ew := s_wordsN (hG.eq g) (t := x) (by rw [g.c]; exact hxc)
      rw [wN_eq g] at ew
      rw [if_neg (by rw [n_le (by omega) (by omega)]; exact hi), o1_e (s_get hR i (by omega)), hx, oI_s, o1_e e, o1_e (s_get hRT i (by omega)), hx, oI_s, o1_e ew, nI_1, F 18 2 (by unfold fO1 rowP; omega), hW, nI_add]
      rw [← take_snoc hx] at Q
      have F2 : Fr (fun a j => a = 18 ∧ j = 2) T (u2 T 18 2 (nI (W + wN S x))) := Fr.u2 _ _ _ _
      have g2 : GEq T (u2 T 18 2 (nI (W + wN S x))) := ⟨rfl, fun _ => rfl, fun _ => rfl, fun _ => rfl⟩
      have gg := g.trans g2
      obtain ⟨U, e2, F3, Q3, w3⟩ := ih (i + 1) _ (W + wN S x) (hG.eq gg) (hRT.fr F2 (fun a j q z => by unfold rowP at q; omega)) (fun t ht => by rw [gg.c]; exact hl t ht) (Q.fr g2 F2 (fun a j q z => by unfold rowP at z; omega)) (u2_e _ _ _ _) (by omega) (by omega)
      refine ⟨U, e2, ((F.mono (fun a j q => Or.inl q)).tr (F2.mono (fun a j q => Or.inr q))).tr F3, Q3, ?_⟩
      rw [w3, wN_eq gg, drop_cons hx, lsum_c, Nat.add_assoc]
def rfo (S : St) (t : Nat) : Option Nat := if t ∈ rcL S then some t else none
theorem rfo_e {S : St} {t u : Nat} : rfo S t = some u ↔ t = u ∧ t ∈ rcL S := by
  unfold rfo
  constructor
  · intro h
    split at h
    · rename_i q; cases h; exact ⟨rfl, q⟩
    · cases h
  · rintro ⟨rfl, q⟩
    exact if_pos q
theorem s_addR {q : Nat} (hq : q = 21 ∨ q = 24) (R : List Nat) : ∀ (n i : Nat) (S : St) (L : List Nat), GI S → RowIs S q R → RowIs S 27 L → i ≤ R.length → R.length - i < n →
    ∃ T, m_Nur_addReached_L2 q n S (nI i) = some T ∧ Fr (rowP 27) S T ∧ RowIs T 27 (addsL L ((R.drop i).map (rfo S))) := by
  intro n
  induction n with
  | zero => intro i S L _ _ _ h1 h2; omega
  | succ n ih =>
    intro i S L hG hR hL h1 h2
    have hlen := hR.len
    rw [m_Nur_addReached_L2, hR.2.2.1]
    by_cases hi : R.length ≤ i
    · rw [if_pos (by rw [n_le (by omega) (by omega)]; exact hi), List.drop_of_length_le hi]
      exact ⟨S, rfl, Fr.rfl', hL⟩
    · obtain ⟨x, hx⟩ : ∃ x, R[i]? = some x := ⟨R[i]'(by omega), List.getElem?_eq_getElem (by omega)⟩
      have hx8 := hR.2.1 x (List.mem_of_getElem? hx)
      rw [if_neg (by rw [n_le (by omega) (by omega)]; exact hi), o1_e (s_get hR i (by omega)), hx, oI_s, o1_e (s_isReached hG hx8), nI_1, drop_cons hx, List.map_cons]
      by_cases hr : x ∈ rcL S
      · obtain ⟨T, e, F, R1⟩ := s_add hL (some x) (b_s hx8)
        rw [decide_eq_true hr, if_neg (by decide), o1_e (s_get hR i (by omega)), hx, o1_e e]
        have g := GEq.row F (by omega)
        obtain ⟨U, e2, F2, R2⟩ := ih (i + 1) T _ (hG.eq g (fun j => F 5 j (by unfold rowP; omega))) (hR.fr F (fun a j y z => by unfold rowP at y z; omega)) R1 (by omega) (by omega)
        refine ⟨U, e2, F.tr F2, ?_⟩
        have er : rfo T = rfo S := funext fun t => by unfold rfo; rw [rcL_eq g]
        rw [er] at R2
        rw [rfo_e.mpr ⟨rfl, hr⟩]
        exact R2
      · rw [decide_eq_false hr, if_pos (show zb false = 0 from rfl), show rfo S x = none by unfold rfo; exact if_neg hr]
        exact ih (i + 1) S L hG hR hL (by omega) (by omega)
theorem s_findReached {S : St} {Y O : List Nat} (hG : GI S) (hY : RowIs S 21 Y) (hO : RowIs S 24 O) (hr : ∀ t ∈ rcL S, t ∈ Y ∨ t ∈ O) : ∃ T R, m_Nur_findReached S = some T ∧ Fr (rowP 27) S T ∧ RowIs T 27 R ∧ ∀ t, t ∈ R ↔ t ∈ rcL S := by
  obtain ⟨T0, e0, F0, R0⟩ := s_empty 27 S
  have g0 := GEq.row F0 (by omega)
  have hG0 := hG.eq g0 (fun j => F0 5 j (by unfold rowP; omega))
  have hO0 : RowIs T0 24 O := hO.fr F0 (fun a j y z => by unfold rowP at y z; omega)
  have lO := hO0.len
  obtain ⟨T1, e1, F1, R1⟩ := s_addR (Or.inr rfl) O 200 0 T0 [] hG0 hO0 R0 (Nat.zero_le _) (by omega)
  have g1 := GEq.row F1 (by omega)
  have hG1 := hG0.eq g1 (fun j => F1 5 j (by unfold rowP; omega))
  have hY1 : RowIs T1 21 Y := (hY.fr F0 (fun a j y z => by unfold rowP at y z; omega)).fr F1 (fun a j y z => by unfold rowP at y z; omega)
  have lY := hY1.len
  obtain ⟨T2, e2, F2, R2⟩ := s_addR (Or.inl rfl) Y 200 0 T1 _ hG1 hY1 R1 (Nat.zero_le _) (by omega)
  unfold m_Nur_findReached m_Nur_addReached
  rw [o1_e e0, o1_e (show (o1 (m_Nur_addReached_L2 24 200 T0 0) fun S1 => some S1) = some T1 by rw [o1_e (show m_Nur_addReached_L2 24 200 T0 0 = some T1 from e1)]), o1_e (show (o1 (m_Nur_addReached_L2 21 200 T1 0) fun S1 => some S1) = some T2 by rw [o1_e (show m_Nur_addReached_L2 21 200 T1 0 = some T2 from e2)])]
  refine ⟨T2, _, rfl, (F0.tr F1).tr F2, R2, fun t => ?_⟩
  rw [mem_addsL, mem_addsL]
  simp only [List.drop_zero, List.mem_map, rfo_e, List.not_mem_nil, false_or, rcL_eq g1, rcL_eq g0]
  constructor
  · rintro (⟨u, -, rfl, h⟩ | ⟨u, -, rfl, h⟩)
    · exact h
    · exact h
  · intro h
    rcases hr t h with q | q
    · exact Or.inr ⟨t, q, rfl, h⟩
    · exact Or.inl ⟨t, q, rfl, h⟩
