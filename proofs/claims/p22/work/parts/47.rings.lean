/-! store 3: rings -/
def sB (S : St) (t : Nat) : Bool := hB S 42 t && decide (S 47 t ≠ 0)
theorem s_isSus {S : St} {t : Nat} (ht : t < 80) : m_Cou_isSuspect S (nI t) = some (zb (sB S t)) := by
  unfold m_Cou_isSuspect sB
  rw [o1_e (s_hasN (k := 42) (d := 1) ht)]
  by_cases h : hB S 42 t = true
  · rw [h, if_neg (by decide), oi_t (n_in (by omega) (by omega)), n_cl (by omega)]
    by_cases q : S 47 t = 0
    · rw [if_pos q, decide_eq_false (fun z => z q)]; rfl
    · rw [if_neg q, decide_eq_true q]; rfl
  · rw [Bool.eq_false_iff.mpr h, if_pos (show zb false = 0 from rfl)]; rfl
def ssF (S : St) (i : Nat) : List (Option Nat) := (List.range' i (cN S - i)).map (fun t => if sB S t = true then some t else none)
theorem ssF_cons {S : St} {i : Nat} (h : i < cN S) : ssF S i = (if sB S i = true then some i else none) :: ssF S (i + 1) := by
  unfold ssF
  rw [show cN S - i = (cN S - (i + 1)) + 1 by omega, List.range'_succ]; rfl
theorem ssF_end {S : St} {i : Nat} (h : cN S ≤ i) : ssF S i = [] := by unfold ssF; rw [Nat.sub_eq_zero_of_le h]; rfl
theorem mem_ss {S : St} {t : Nat} : some t ∈ ssF S 0 ↔ t < cN S ∧ sB S t = true := by
  unfold ssF
  simp only [List.mem_map, List.mem_range'_1]
  constructor
  · rintro ⟨r, ⟨-, h2⟩, h3⟩
    split at h3
    · rename_i q; cases h3; exact ⟨by omega, q⟩
    · cases h3
  · rintro ⟨h1, h2⟩
    exact ⟨t, ⟨Nat.zero_le _, by omega⟩, if_pos h2⟩
def SEq (S T : St) : Prop := GEq S T ∧ (∀ j, T 43 j = S 43 j) ∧ (∀ j, T 46 j = S 46 j) ∧ ∀ j, T 47 j = S 47 j
theorem SEq.of {S T : St} {P : Nat → Nat → Prop} (F : Fr P S T) (hP : ∀ a j, P a j → (a = 1 → j ≠ 6) ∧ a ≠ 2 ∧ a ≠ 3 ∧ a ≠ 4 ∧ a ≠ 43 ∧ a ≠ 46 ∧ a ≠ 47) : SEq S T :=
  ⟨GEq.of F (fun a j q => by have := hP a j q; omega), fun j => F _ _ (fun q => by have := hP _ _ q; omega), fun j => F _ _ (fun q => by have := hP _ _ q; omega), fun j => F _ _ (fun q => by have := hP _ _ q; omega)⟩
theorem SEq.trans {S T U : St} (h : SEq S T) (h2 : SEq T U) : SEq S U := ⟨h.1.trans h2.1, fun j => (h2.2.1 j).trans (h.2.1 j), fun j => (h2.2.2.1 j).trans (h.2.2.1 j), fun j => (h2.2.2.2 j).trans (h.2.2.2 j)⟩
theorem SEq.hb {S T : St} (h : SEq S T) (t : Nat) : hB T 42 t = hB S 42 t := hB_eq h.2.1 t
theorem SEq.sb {S T : St} (h : SEq S T) : sB T = sB S := funext fun t => by unfold sB; rw [h.hb, h.2.2.2]
theorem SEq.ss {S T : St} (h : SEq S T) (i : Nat) : ssF T i = ssF S i := by unfold ssF; rw [h.sb, h.1.c]
theorem s_fr9 : ∀ (n i : Nat) (S : St) (L : List Nat), GW S → RowIs S 52 L → i ≤ cN S → cN S - i < n → ∃ T, m_Cou_findRings_L9 n S (nI i) = some T ∧ Fr (rowP 52) S T ∧ RowIs T 52 (addsL L (ssF S i)) := by
  intro n
  induction n with
  | zero => intro i S L _ _ h1 h2; omega
  | succ n ih =>
    intro i S L hG hL h1 h2
    have h80 := hG.2.1
    rw [m_Cou_findRings_L9, hG.1]
    by_cases hi : cN S ≤ i
    · rw [if_pos (by rw [n_le (by omega) (by omega)]; exact hi), ssF_end hi]
      exact ⟨S, rfl, Fr.rfl', hL⟩
    · rw [if_neg (by rw [n_le (by omega) (by omega)]; exact hi), o1_e (s_isSus (show i < 80 by omega)), nI_1, ssF_cons (by omega)]
      by_cases q : sB S i = true
      · obtain ⟨T, e, F, R⟩ := s_add hL (some i) (b_s (by omega))
        have g := SEq.of F (fun a j q => by unfold rowP at q; omega)
        obtain ⟨U, e2, F2, R2⟩ := ih (i + 1) T _ (hG.eq g.1) R (by rw [g.1.c]; omega) (by rw [g.1.c]; omega)
        rw [q, if_neg (by decide), ← oI_s i, o1_e e, if_pos rfl]
        rw [g.ss] at R2
        exact ⟨U, e2, F.tr F2, R2⟩
      · rw [Bool.eq_false_iff.mpr q, if_pos (show zb false = 0 from rfl), if_neg (by decide)]
        exact ih (i + 1) S L hG hL (by omega) (by omega)
theorem L44_eq : ∀ (n : Nat) (S : St) (v : Int32), m_Cou_findRings_L44 n S v = m_Gr_trace_L35 52 n S v := by
  intro n
  induction n with
  | zero => intro S v; rfl
  | succ n ih => intro S v; rw [m_Cou_findRings_L44, m_Gr_trace_L35]; simp only [ih]
theorem L71_eq : ∀ (n : Nat) (S : St) (v : Int32), m_Cou_findLeftOut_L71 n S v = m_Gr_trace_L35 55 n S v := by
  intro n
  induction n with
  | zero => intro S v; rfl
  | succ n ih => intro S v; rw [m_Cou_findLeftOut_L71, m_Gr_trace_L35]; simp only [ih]
theorem s_in32 {x : Nat} (hx : x < 80) : ∀ (n i : Nat) (S : St) (c : Nat → Nat), GW S → (∀ t, t < 80 → S 48 t = nI (c t)) → i ≤ 3 → 3 - i < n →
    ∃ T, m_Cou_countNamedInside_L32 n S (nI x) (nI i) = some T ∧ Fr (fun a _ => a = 48) S T ∧ ∀ t, t < 80 → T 48 t = nI (c t + ct (kidsF S (some x) i) t) := by
  intro n
  induction n with
  | zero => intro i S c _ _ h1 h2; omega
  | succ n ih =>
    intro i S c hG hc h1 h2
    have h80 := hG.2.1
    have hf := fO_le hG (some x)
    rw [m_Cou_countNamedInside_L32, ← oI_s x, o1_e (s_fieldsOf hG (some x) (b_s hx))]
    by_cases hi : fO S (some x) ≤ i
    · rw [if_pos (by rw [n_le (by omega) (by omega)]; exact hi), kidsF_end hi]
      exact ⟨S, rfl, Fr.rfl', hc⟩
    · have hnq : B80 (nmQ S (some x) i) := fun u hu => Nat.lt_of_lt_of_le (hG.b_nq _ i u hu) hG.2.1
      rw [if_neg (by rw [n_le (by omega) (by omega)]; exact hi), o1_e (s_nameOf hG (some x) (b_s hx) i (by omega)), o1_e (s_isThing hG _ hnq), nI_1, kidsF_cons (by omega), oI_s x]
      cases hq : nmQ S (some x) i with
      | none =>
        rw [if_pos (show zb (isT S none) = 0 from rfl)]
        obtain ⟨T, e, F, h⟩ := ih (i + 1) S c hG hc (by omega) (by omega)
        exact ⟨T, e, F, fun t ht => by rw [h t ht, ct_c, if_neg (by intro z; cases z), Nat.zero_add]⟩
      | some u =>
        have hu := hG.b_nq _ i u hq
        rw [if_neg (by rw [isT_s, decide_eq_true hu]; decide), oI_s, oi_t (n_in (by omega) (by omega)), oi_t (n_in (by omega) (by omega))]
        simp only [n_cl (show u < 2147483648 by omega)]
        rw [hc u (by omega), nI_1]
        have F1 : Fr (fun a _ => a = 48) S (u2 S 48 u (nI (c u + 1))) := (Fr.u2 _ _ _ _).mono (fun a j q => q.1)
        have g := GEq.of F1 (fun a j q => by omega)
        obtain ⟨T, e, F, h⟩ := ih (i + 1) (u2 S 48 u (nI (c u + 1))) (fun t => c t + if some u = some t then 1 else 0) (hG.eq g) (fun t ht => by
          by_cases q : t = u
          · subst q; rw [u2_e, if_pos rfl]
          · rw [u2_n (fun z => q z.2), hc t ht, if_neg (fun z => by cases z; exact q rfl)]; rfl) (by omega) (by omega)
        refine ⟨T, e, F1.tr F, fun t ht => ?_⟩
        rw [h t ht, kidsF_eq g, ct_c, Nat.add_assoc]
theorem s_in10 (R : List Nat) : ∀ (n i : Nat) (S : St) (c : Nat → Nat), GW S → RowIs S 52 R → (∀ t, t < 80 → S 48 t = nI (c t)) → i ≤ R.length → R.length - i < n →
    ∃ T, m_Cou_countNamedInside_L10 n S (nI i) = some T ∧ Fr (fun a _ => a = 48) S T ∧ ∀ t, t < 80 → T 48 t = nI (c t + fc S (R.drop i) t) := by
  intro n
  induction n with
  | zero => intro i S c _ _ _ h1 h2; omega
  | succ n ih =>
    intro i S c hG hR hc h1 h2
    have hlen := hR.len
    rw [m_Cou_countNamedInside_L10, hR.2.2.1]
    by_cases hi : R.length ≤ i
    · rw [if_pos (by rw [n_le (by omega) (by omega)]; exact hi), List.drop_of_length_le hi]
      exact ⟨S, rfl, Fr.rfl', hc⟩
    · obtain ⟨x, hx⟩ : ∃ x, R[i]? = some x := ⟨R[i]'(by omega), List.getElem?_eq_getElem (by omega)⟩
      obtain ⟨T, e, F, h⟩ := s_in32 (hR.2.1 x (List.mem_of_getElem? hx)) 200 0 S c hG hc (by omega) (by omega)
      have g := GEq.of F (fun a j q => by omega)
      obtain ⟨U, e2, F2, h3⟩ := ih (i + 1) T _ (hG.eq g) (hR.fr F (fun a j q z => by unfold rowP at q; omega)) h (by omega) (by omega)
      rw [if_neg (by rw [n_le (by omega) (by omega)]; exact hi), o1_e (s_get hR i (by omega)), hx, oI_s, o1_e (show m_Cou_countNamedInside_L32 200 S (nI x) 0 = some T from e), nI_1]
      refine ⟨U, e2, F.tr F2, fun t ht => ?_⟩
      rw [h3 t ht, fc_eq g, drop_cons hx, fc_c, Nat.add_assoc]; rfl
def lf (S : St) (R : List Nat) (x : Nat) : Option Nat := if S 46 x ≤ nI (fc S R x) then none else some x
theorem s_lo9 (R : List Nat) : ∀ (n i : Nat) (S : St) (L : List Nat), GW S → RowIs S 52 R → (∀ t ∈ R, t < cN S) → RowIs S 55 L → (∀ t, t < 80 → S 48 t = nI (fc S R t)) → i ≤ R.length → R.length - i < n →
    ∃ T, m_Cou_findLeftOut_L9 n S (nI i) = some T ∧ Fr (rowP 55) S T ∧ RowIs T 55 (addsL L ((R.drop i).map (lf S R))) := by
  intro n
  induction n with
  | zero => intro i S L _ _ _ _ _ h1 h2; omega
  | succ n ih =>
    intro i S L hG hR hRc hL h48 h1 h2
    have h80 := hG.2.1
    have hlen := hR.len
    rw [m_Cou_findLeftOut_L9, hR.2.2.1]
    by_cases hi : R.length ≤ i
    · rw [if_pos (by rw [n_le (by omega) (by omega)]; exact hi), List.drop_of_length_le hi]
      exact ⟨S, rfl, Fr.rfl', hL⟩
    · obtain ⟨x, hx⟩ : ∃ x, R[i]? = some x := ⟨R[i]'(by omega), List.getElem?_eq_getElem (by omega)⟩
      have hxc := hRc x (List.mem_of_getElem? hx)
      rw [if_neg (by rw [n_le (by omega) (by omega)]; exact hi), o1_e (s_get hR i (by omega)), hx, oI_s, o1_e (s_isThingN hG hxc), if_neg (by decide), oi_t (n_in (by omega) (by omega)), oi_t (n_in (by omega) (by omega)), nI_1]
      simp only [n_cl (show x < 2147483648 by omega)]
      rw [h48 x (by omega), drop_cons hx, List.map_cons]
      by_cases q : S 46 x ≤ nI (fc S R x)
      · rw [if_pos q, show lf S R x = none from if_pos q]
        exact ih (i + 1) S L hG hR hRc hL h48 (by omega) (by omega)
      · obtain ⟨T, e, F, R1⟩ := s_add hL (some x) (b_s (by omega))
        have g := GEq.row F (by omega)
        have ef : lf T R = lf S R := funext fun t => by unfold lf; rw [fc_eq g, F 46 t (by unfold rowP; omega)]
        obtain ⟨U, e2, F2, R2⟩ := ih (i + 1) T _ (hG.eq g) (hR.fr F (fun a j y z => by unfold rowP at y z; omega)) (fun t ht => by rw [g.c]; exact hRc t ht) R1 (fun t ht => by rw [F 48 t (by unfold rowP; omega), fc_eq g]; exact h48 t ht) (by omega) (by omega)
        rw [if_neg q, ← oI_s x, o1_e e, show lf S R x = some x from if_neg q]
        rw [ef] at R2
        exact ⟨U, e2, F.tr F2, R2⟩
def spL (S : St) : List Nat := clo (kids S) 80 0 (addsL [] (ssF S 0))
def loL (S : St) : List Nat := clo (kids S) 80 0 (addsL [] ((spL S).map (lf S (spL S))))
theorem spL_eq {S T : St} (h : SEq S T) : spL T = spL S := by unfold spL; rw [h.ss, kids_eq h.1]
theorem loL_eq {S T : St} (h : SEq S T) : loL T = loL S := by
  have : lf T (spL S) = lf S (spL S) := funext fun t => by unfold lf; rw [fc_eq h.1, h.2.2.1]
  unfold loL; rw [spL_eq h, this, kids_eq h.1]
theorem sp_lt {S : St} (hG : GW S) : ∀ t ∈ spL S, t < cN S := clo_min _ (fun t => t < cN S) (fun _ _ u hu => kids_lt hG hu) 80 0 _ (fun t ht => (mem_ss.mp ((mem_addsL.mp ht).resolve_left List.not_mem_nil)).1)
theorem sp_nodup (S : St) : (spL S).Nodup := clo_nodup _ _ _ _ (addsL_nodup List.nodup_nil)
theorem lo_nodup (S : St) : (loL S).Nodup := clo_nodup _ _ _ _ (addsL_nodup List.nodup_nil)
def fRi (a j : Nat) : Prop := a = 48 ∨ rowP 52 a j ∨ rowP 55 a j
theorem s_findRings {S : St} (hG : GW S) : ∃ T, m_Cou_findRings S = some T ∧ Fr fRi S T ∧ RowIs T 52 (spL S) ∧ RowIs T 55 (loL S) := by
  have h80 := hG.2.1
  obtain ⟨T0, e0, F0, R0⟩ := s_empty 52 S
  have g0 := SEq.of F0 (fun a j q => by unfold rowP at q; omega)
  obtain ⟨T1, e1, F1, R1⟩ := s_fr9 200 0 T0 [] (hG.eq g0.1) R0 (Nat.zero_le _) (by rw [g0.1.c]; omega)
  rw [g0.ss] at R1
  have g1 := g0.trans (SEq.of F1 (fun a j q => by unfold rowP at q; omega))
  obtain ⟨T2, e2, F2, R2⟩ := s_clo (q := 52) (by omega) 200 0 T1 _ (hG.eq g1.1) R1 (by omega) (by omega)
  rw [kids_eq g1.1] at R2
  have g2 := g1.trans (SEq.of F2 (fun a j q => by unfold rowP at q; omega))
  have R2' : RowIs T2 52 (spL S) := R2
  have l2 := R2'.len
  obtain ⟨T3, e3, F3, h3⟩ := s_fill 48 0 T2
  have g3 := g2.trans (SEq.of F3 (fun a j q => by omega))
  have R3 : RowIs T3 52 (spL S) := R2'.fr F3 (fun a j q z => by unfold rowP at q; omega)
  obtain ⟨T4, e4, F4, h4⟩ := s_in10 (spL S) 200 0 T3 (fun _ => 0) (hG.eq g3.1) R3 (fun t ht => h3 t ht) (Nat.zero_le _) (by omega)
  have g4 := g3.trans (SEq.of F4 (fun a j q => by omega))
  have R4 : RowIs T4 52 (spL S) := R3.fr F4 (fun a j q z => by unfold rowP at q; omega)
  rw [List.drop_zero, fc_eq g3.1] at h4
  obtain ⟨T5, e5, F5, R5⟩ := s_empty 55 T4
  have g5 := g4.trans (SEq.of F5 (fun a j q => by unfold rowP at q; omega))
  have R5' : RowIs T5 52 (spL S) := R4.fr F5 (fun a j q z => by unfold rowP at q z; omega)
  obtain ⟨T6, e6, F6, R6⟩ := s_lo9 (spL S) 200 0 T5 [] (hG.eq g5.1) R5' (fun t ht => by rw [g5.1.c]; exact sp_lt hG t ht) R5 (fun t ht => by rw [F5 48 t (by unfold rowP; omega), h4 t ht, fc_eq g5.1, Nat.zero_add]) (Nat.zero_le _) (by omega)
  have g6 := g5.trans (SEq.of F6 (fun a j q => by unfold rowP at q; omega))
  have ef : lf T5 (spL S) = lf S (spL S) := funext fun t => by unfold lf; rw [fc_eq g5.1, g5.2.2.1]
  rw [List.drop_zero, ef] at R6
  obtain ⟨T7, e7, F7, R7⟩ := s_clo (q := 55) (by omega) 200 0 T6 _ (hG.eq g6.1) R6 (by omega) (by omega)
  rw [kids_eq g6.1] at R7
  unfold m_Cou_findRings m_Cou_countNamedInside m_Cou_findLeftOut
  rw [o1_e e0, o1_e (show m_Cou_findRings_L9 200 T0 0 = some T1 from e1), o1_e (show m_Cou_findRings_L44 200 T1 0 = some T2 by rw [L44_eq]; exact e2)]
  rw [o1_e (show (o1 (m_Arr_fill_80 48 T2 0) fun S1 => o1 (m_Cou_countNamedInside_L10 200 S1 0) fun S2 => some S2) = some T4 by rw [o1_e e3, o1_e (show m_Cou_countNamedInside_L10 200 T3 0 = some T4 from e4)])]
  rw [o1_e (show (o1 (m_Row_empty 55 T4) fun S1 => o1 (m_Cou_findLeftOut_L9 200 S1 0) fun S2 => o1 (m_Cou_findLeftOut_L71 200 S2 0) fun S3 => some S3) = some T7 by rw [o1_e e5, o1_e (show m_Cou_findLeftOut_L9 200 T5 0 = some T6 from e6), o1_e (show m_Cou_findLeftOut_L71 200 T6 0 = some T7 by rw [L71_eq]; exact e7)])]
  have a0 : Fr fRi S T2 := (((F0.tr F1).tr F2)).mono (fun a j q => Or.inr (Or.inl q))
  have a1 : Fr fRi T2 T4 := (F3.tr F4).mono (fun a j q => Or.inl q)
  have a2 : Fr fRi T4 T7 := ((F5.tr F6).tr F7).mono (fun a j q => Or.inr (Or.inr q))
  exact ⟨T7, rfl, (a0.tr a1).tr a2, ((R5'.fr F6 (fun a j q z => by unfold rowP at q z; omega)).fr F7 (fun a j q z => by unfold rowP at q z; omega)), R7⟩
theorem s_couWould {S T : St} (hG : GW S) (h : SEq S T) :
    (∃ T', m_Cou_countToGo T = some (nI (spL S).length - nI (loL S).length, T') ∧ Fr fRi T T') ∧ ∃ T', m_Cou_workToDo T = some (nI (spL S).length, T') ∧ Fr fRi T T' := by
  obtain ⟨T', e, F, R1, R2⟩ := s_findRings (hG.eq h.1)
  rw [spL_eq h] at R1
  rw [loL_eq h] at R2
  refine ⟨⟨T', ?_, F⟩, T', ?_, F⟩
  · unfold m_Cou_countToGo
    rw [o1_e e, R1.2.2.1, R2.2.2.1]
  · unfold m_Cou_workToDo
    rw [o1_e e, R1.2.2.1]
