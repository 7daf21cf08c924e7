/-! the graph -/
def cN (S : St) : Nat := (S 1 6).toNatClampNeg
def fN (S : St) (t : Nat) : Nat := (S 2 t).toNatClampNeg
def oN (v : Int32) : Option Nat := if v < 0 then none else some v.toNatClampNeg
def nmO (S : St) (t i : Nat) : Option Nat := oN (S 3 (t * 3 + i))
def rtO (S : St) (r : Nat) : Option Nat := oN (S 4 r)
theorem oN_oI {o : Option Nat} (h : ∀ t, o = some t → t < 2147483648) : oN (oI o) = o := by
  cases o with
  | none => exact if_pos (by decide)
  | some t =>
    have := h t rfl
    unfold oN oI
    rw [if_neg (n_nneg this), n_cl this]
def GW (S : St) : Prop :=
  S 1 6 = nI (cN S) ∧ cN S ≤ 80 ∧ (∀ t, t < cN S → S 2 t = nI (fN S t) ∧ fN S t ≤ 3 ∧ ∀ i, i < 3 → S 3 (t * 3 + i) = oI (nmO S t i) ∧ ∀ u, nmO S t i = some u → u < cN S) ∧
  ∀ r, r < 6 → S 4 r = oI (rtO S r) ∧ ∀ u, rtO S r = some u → u < cN S
def GEq (S T : St) : Prop := T 1 6 = S 1 6 ∧ (∀ j, T 2 j = S 2 j) ∧ (∀ j, T 3 j = S 3 j) ∧ ∀ j, T 4 j = S 4 j
theorem GEq.rfl' {S : St} : GEq S S := ⟨rfl, fun _ => rfl, fun _ => rfl, fun _ => rfl⟩
theorem GEq.trans {S T U : St} (h1 : GEq S T) (h2 : GEq T U) : GEq S U := ⟨h2.1.trans h1.1, fun j => (h2.2.1 j).trans (h1.2.1 j), fun j => (h2.2.2.1 j).trans (h1.2.2.1 j), fun j => (h2.2.2.2 j).trans (h1.2.2.2 j)⟩
theorem GEq.c {S T : St} (h : GEq S T) : cN T = cN S := by unfold cN; rw [h.1]
theorem GEq.f {S T : St} (h : GEq S T) (t : Nat) : fN T t = fN S t := by unfold fN; rw [h.2.1]
theorem GEq.n {S T : St} (h : GEq S T) (t i : Nat) : nmO T t i = nmO S t i := by unfold nmO; rw [h.2.2.1]
theorem GEq.r {S T : St} (h : GEq S T) (r : Nat) : rtO T r = rtO S r := by unfold rtO; rw [h.2.2.2]
theorem GW.eq {S T : St} (h : GW S) (e : GEq S T) : GW T := by
  refine ⟨?_, ?_, fun t ht => ?_, fun r hr => ?_⟩
  · rw [e.1, e.c]; exact h.1
  · rw [e.c]; exact h.2.1
  · rw [e.c] at ht
    obtain ⟨a, b, c⟩ := h.2.2.1 t ht
    refine ⟨by rw [e.2.1, e.f]; exact a, by rw [e.f]; exact b, fun i hi => ?_⟩
    rw [e.2.2.1, e.n, e.c]
    exact c i hi
  · rw [e.2.2.2, e.r, e.c]
    exact h.2.2.2 r hr
theorem GEq.of {S T : St} {P : Nat → Nat → Prop} (h : Fr P S T) (hP : ∀ a j, P a j → (a = 1 → j ≠ 6) ∧ a ≠ 2 ∧ a ≠ 3 ∧ a ≠ 4) : GEq S T :=
  ⟨h _ _ (fun z => (hP _ _ z).1 rfl rfl), fun j => h _ _ (fun z => (hP _ _ z).2.1 rfl), fun j => h _ _ (fun z => (hP _ _ z).2.2.1 rfl), fun j => h _ _ (fun z => (hP _ _ z).2.2.2 rfl)⟩
theorem GEq.row {S T : St} {k : Nat} (h : Fr (rowP k) S T) (hk : 5 < k) : GEq S T := GEq.of h (fun a j z => by unfold rowP at z; omega)
def B80 (o : Option Nat) : Prop := ∀ t, o = some t → t < 80
theorem GW.b_nm {S : St} (h : GW S) {t i : Nat} (ht : t < cN S) (hi : i < 3) : B80 (nmO S t i) := fun u hu => Nat.lt_of_lt_of_le ((h.2.2.1 t ht).2.2 i hi |>.2 u hu) h.2.1
theorem GW.b_rt {S : St} (h : GW S) {r : Nat} (hr : r < 6) : B80 (rtO S r) := fun u hu => Nat.lt_of_lt_of_le ((h.2.2.2 r hr).2 u hu) h.2.1
def fO (S : St) : Option Nat → Nat
  | none => 0
  | some t => if t < cN S then fN S t else 0
def wN (S : St) (t : Nat) : Nat := fN S t + 1
def wO (S : St) : Option Nat → Nat
  | none => 0
  | some t => if t < cN S then wN S t else 0
def nmQ (S : St) (o : Option Nat) (i : Nat) : Option Nat := match o with
  | none => none
  | some t => if t < cN S ∧ i < fN S t then nmO S t i else none
def isT (S : St) : Option Nat → Bool
  | none => false
  | some t => decide (t < cN S)
theorem fO_s (S : St) (t : Nat) : fO S (some t) = if t < cN S then fN S t else 0 := rfl
theorem wO_s (S : St) (t : Nat) : wO S (some t) = if t < cN S then wN S t else 0 := rfl
theorem nmQ_s (S : St) (t i : Nat) : nmQ S (some t) i = if t < cN S ∧ i < fN S t then nmO S t i else none := rfl
theorem isT_s (S : St) (t : Nat) : isT S (some t) = decide (t < cN S) := rfl
theorem fO_le {S : St} (h : GW S) (o : Option Nat) : fO S o ≤ 3 := by
  cases o with
  | none => exact Nat.zero_le _
  | some t =>
    rw [fO_s]
    split
    · rename_i q; exact (h.2.2.1 t q).2.1
    · exact Nat.zero_le _
theorem wO_le {S : St} (h : GW S) (o : Option Nat) : wO S o ≤ 4 := by
  cases o with
  | none => exact Nat.zero_le _
  | some t =>
    rw [wO_s]; unfold wN
    split
    · rename_i q; have := (h.2.2.1 t q).2.1; omega
    · exact Nat.zero_le _
theorem GW.b_nq {S : St} (h : GW S) (o : Option Nat) (i : Nat) : ∀ u, nmQ S o i = some u → u < cN S := by
  intro u hu
  cases o with
  | none => cases hu
  | some t =>
    rw [nmQ_s] at hu
    split at hu
    · rename_i q
      have := (h.2.2.1 t q.1).2.1
      exact ((h.2.2.1 t q.1).2.2 i (by omega)).2 u hu
    · cases hu
theorem s_fieldsOf {S : St} (h : GW S) (o : Option Nat) (ho : B80 o) : m_Gr_fieldsOf S (oI o) = some (nI (fO S o)) := by
  cases o with
  | none =>
    rw [oI_n]
    unfold m_Gr_fieldsOf
    exact if_pos (by decide)
  | some t =>
    have ht := ho t rfl
    have hc := h.2.1
    rw [oI_s]
    unfold m_Gr_fieldsOf
    rw [if_neg (n_nneg (by omega)), h.1]
    rw [fO_s]
    by_cases hq : t < cN S
    · rw [if_neg (by rw [n_le (by omega) (by omega)]; omega), oi_t (n_in (by omega) (by omega)), n_cl (by omega), if_pos hq, ← (h.2.2.1 t hq).1]
    · rw [if_pos (by rw [n_le (by omega) (by omega)]; omega), if_neg hq]; rfl
theorem s_wordsOf {S : St} (h : GW S) (o : Option Nat) (ho : B80 o) : m_Gr_wordsOf S (oI o) = some (nI (wO S o)) := by
  cases o with
  | none =>
    rw [oI_n]
    unfold m_Gr_wordsOf
    exact if_pos (by decide)
  | some t =>
    have ht := ho t rfl
    have hc := h.2.1
    rw [oI_s]
    unfold m_Gr_wordsOf
    rw [if_neg (n_nneg (by omega)), h.1]
    rw [wO_s]; unfold wN
    by_cases hq : t < cN S
    · rw [if_neg (by rw [n_le (by omega) (by omega)]; omega), oi_t (n_in (by omega) (by omega)), n_cl (by omega), if_pos hq, (h.2.2.1 t hq).1, nI_1]
    · rw [if_pos (by rw [n_le (by omega) (by omega)]; omega), if_neg hq]; rfl
theorem s_isThing {S : St} (h : GW S) (o : Option Nat) (ho : B80 o) : m_Gr_isThing S (oI o) = some (zb (isT S o)) := by
  cases o with
  | none =>
    rw [oI_n]
    unfold m_Gr_isThing
    exact if_pos (by decide)
  | some t =>
    have ht := ho t rfl
    have hc := h.2.1
    rw [oI_s]
    unfold m_Gr_isThing
    rw [if_neg (n_nneg (by omega)), h.1]
    rw [isT_s]
    by_cases hq : t < cN S
    · rw [if_neg (by rw [n_le (by omega) (by omega)]; omega)]; simp [zb, hq]
    · rw [if_pos (by rw [n_le (by omega) (by omega)]; omega)]; simp [zb, hq]
theorem s_nameOf {S : St} (h : GW S) (o : Option Nat) (ho : B80 o) (i : Nat) (hi : i < 1000) : m_Gr_nameOf S (oI o) (nI i) = some (oI (nmQ S o i)) := by
  cases o with
  | none =>
    rw [oI_n]
    unfold m_Gr_nameOf
    exact if_pos (by decide)
  | some t =>
    have ht := ho t rfl
    have hc := h.2.1
    rw [oI_s]
    unfold m_Gr_nameOf
    rw [if_neg (n_nneg (by omega)), h.1]
    rw [nmQ_s]
    by_cases hq : t < cN S
    · have hf := h.2.2.1 t hq
      rw [if_neg (by rw [n_le (by omega) (by omega)]; omega), if_neg (n_nneg (by omega)), oi_t (n_in (by omega) (by omega)), n_cl (by omega), hf.1]
      by_cases hif : i < fN S t
      · rw [if_pos (by rw [n_lt (by omega) (by omega)]; exact hif), show (3 : Int32) = nI 3 from rfl, pk_mul, nI_add, oi_t (n_in (by omega) (by omega)), n_cl (by omega)]
        rw [if_pos ⟨hq, hif⟩, (hf.2.2 i (by omega)).1]
      · rw [if_neg (by rw [n_lt (by omega) (by omega)]; exact hif)]
        rw [if_neg (fun z => hif z.2)]; rfl
    · rw [if_pos (by rw [n_le (by omega) (by omega)]; omega)]
      rw [if_neg (fun z => hq z.1)]; rfl
theorem s_rootAt {S : St} (h : GW S) {r : Nat} (hr : r < 6) : m_Gr_rootAt S (nI r) = some (oI (rtO S r)) := by
  unfold m_Gr_rootAt
  rw [if_neg (n_nneg (by omega)), if_neg (by rw [show (6 : Int32) = nI 6 from rfl, n_le (by omega) (by omega)]; omega), oi_t (n_in (by omega) (by omega)), n_cl (by omega), (h.2.2.2 r hr).1]
/-! lists that grow by what their members name -/
def addsL (L : List Nat) (l : List (Option Nat)) : List Nat := l.foldl addL L
theorem mem_addsL {l : List (Option Nat)} : ∀ {L : List Nat} {t : Nat}, t ∈ addsL L l ↔ t ∈ L ∨ some t ∈ l := by
  induction l with
  | nil => intro L t; simp [addsL]
  | cons o l ih =>
    intro L t
    show t ∈ addsL (addL L o) l ↔ _
    rw [ih, mem_addL, List.mem_cons]
    constructor
    · rintro ((h | h) | h)
      · exact Or.inl h
      · exact Or.inr (Or.inl h.symm)
      · exact Or.inr (Or.inr h)
    · rintro (h | h | h)
      · exact Or.inl (Or.inl h)
      · exact Or.inl (Or.inr h.symm)
      · exact Or.inr h
theorem addsL_nodup {l : List (Option Nat)} : ∀ {L : List Nat}, L.Nodup → (addsL L l).Nodup := by
  induction l with
  | nil => intro L h; exact h
  | cons o l ih => intro L h; exact ih (addL_nodup h)
theorem addL_pre (L : List Nat) (o : Option Nat) : ∃ M, addL L o = L ++ M := by
  cases o with
  | none => exact ⟨[], by simp [addL]⟩
  | some t =>
    rw [addL_s]
    split
    · exact ⟨[], by simp⟩
    · exact ⟨[t], rfl⟩
theorem addsL_pre {l : List (Option Nat)} : ∀ (L : List Nat), ∃ M, addsL L l = L ++ M := by
  induction l with
  | nil => intro L; exact ⟨[], by simp [addsL]⟩
  | cons o l ih =>
    intro L
    obtain ⟨M1, e1⟩ := addL_pre L o
    obtain ⟨M2, e2⟩ := ih (addL L o)
    refine ⟨M1 ++ M2, ?_⟩
    show addsL (addL L o) l = _
    rw [e2, e1, List.append_assoc]
def clo (K : Nat → List (Option Nat)) : Nat → Nat → List Nat → List Nat
  | 0, _, L => L
  | n + 1, i, L => match L[i]? with
    | none => L
    | some t => clo K n (i + 1) (addsL L (K t))
theorem clo_s (K : Nat → List (Option Nat)) (n i : Nat) (L : List Nat) {t : Nat} (h : L[i]? = some t) : clo K (n + 1) i L = clo K n (i + 1) (addsL L (K t)) := by
  show (match L[i]? with | none => L | some t => clo K n (i + 1) (addsL L (K t))) = _
  rw [h]
theorem clo_n (K : Nat → List (Option Nat)) (n i : Nat) (L : List Nat) (h : L[i]? = none) : clo K n i L = L := by
  cases n with
  | zero => rfl
  | succ n =>
    show (match L[i]? with | none => L | some t => clo K n (i + 1) (addsL L (K t))) = _
    rw [h]
theorem clo_pre (K : Nat → List (Option Nat)) : ∀ (n i : Nat) (L : List Nat), ∃ M, clo K n i L = L ++ M := by
  intro n
  induction n with
  | zero => intro i L; exact ⟨[], by simp [clo]⟩
  | succ n ih =>
    intro i L
    cases h : L[i]? with
    | none => exact ⟨[], by rw [clo_n K _ _ _ h]; simp⟩
    | some t =>
      obtain ⟨M1, e1⟩ := addsL_pre (l := K t) L
      obtain ⟨M2, e2⟩ := ih (i + 1) (addsL L (K t))
      exact ⟨M1 ++ M2, by rw [clo_s K _ _ _ h, e2, e1, List.append_assoc]⟩
theorem clo_nodup (K : Nat → List (Option Nat)) : ∀ (n i : Nat) (L : List Nat), L.Nodup → (clo K n i L).Nodup := by
  intro n
  induction n with
  | zero => intro i L h; exact h
  | succ n ih =>
    intro i L h
    cases hi : L[i]? with
    | none => rw [clo_n K _ _ _ hi]; exact h
    | some t => rw [clo_s K _ _ _ hi]; exact ih (i + 1) _ (addsL_nodup h)
theorem clo_min (K : Nat → List (Option Nat)) (P : Nat → Prop) (hK : ∀ t, P t → ∀ u, some u ∈ K t → P u) : ∀ (n i : Nat) (L : List Nat), (∀ t ∈ L, P t) → ∀ t ∈ clo K n i L, P t := by
  intro n
  induction n with
  | zero => intro i L h; exact h
  | succ n ih =>
    intro i L h
    cases hi : L[i]? with
    | none => rw [clo_n K _ _ _ hi]; exact h
    | some t =>
      rw [clo_s K _ _ _ hi]
      refine ih (i + 1) _ (fun u hu => ?_)
      rcases mem_addsL.mp hu with q | q
      · exact h u q
      · exact hK t (h t (List.mem_of_getElem? hi)) u q
theorem clo_closed (K : Nat → List (Option Nat)) (m : Nat) (hK : ∀ t u, some u ∈ K t → u < m) : ∀ (n i : Nat) (L : List Nat), L.Nodup → (∀ t ∈ L, t < m) → m ≤ n + i → (∀ j, j < i → ∀ t, L[j]? = some t → ∀ u, some u ∈ K t → u ∈ L) →
    ∀ t ∈ clo K n i L, ∀ u, some u ∈ K t → u ∈ clo K n i L := by
  intro n
  induction n with
  | zero =>
    intro i L hn hm hi hc t ht u hu
    have hl := nd_len m L hn hm
    obtain ⟨j, hj⟩ := List.getElem?_of_mem (show t ∈ L from ht)
    have hjl := (List.getElem?_eq_some_iff.mp hj).1
    exact hc j (by omega) t hj u hu
  | succ n ih =>
    intro i L hn hm hi hc
    cases h : L[i]? with
    | none =>
      rw [clo_n K _ _ _ h]
      intro t ht u hu
      have hl : L.length ≤ i := by
        by_cases q : i < L.length
        · rw [List.getElem?_eq_getElem q] at h; cases h
        · omega
      obtain ⟨j, hj⟩ := List.getElem?_of_mem ht
      have hjl := (List.getElem?_eq_some_iff.mp hj).1
      exact hc j (by omega) t hj u hu
    | some x =>
      rw [clo_s K _ _ _ h]
      obtain ⟨M, e⟩ := addsL_pre (l := K x) L
      have hil := (List.getElem?_eq_some_iff.mp h).1
      refine ih (i + 1) _ (addsL_nodup hn) (fun t ht => ?_) (by omega) (fun j hj t htj u hu => ?_)
      · rcases mem_addsL.mp ht with q | q
        · exact hm t q
        · exact hK x t q
      · rw [e, List.getElem?_append_left (by omega)] at htj
        by_cases hji : j = i
        · subst hji
          rw [h] at htj
          cases htj
          exact mem_addsL.mpr (Or.inr hu)
        · exact mem_addsL.mpr (Or.inl (hc j (by omega) t htj u hu))
def kidsF (S : St) (o : Option Nat) (i : Nat) : List (Option Nat) := (List.range' i (fO S o - i)).map (nmQ S o)
def kids (S : St) (t : Nat) : List (Option Nat) := kidsF S (some t) 0
theorem kidsF_end {S : St} {o : Option Nat} {i : Nat} (h : fO S o ≤ i) : kidsF S o i = [] := by
  unfold kidsF
  rw [Nat.sub_eq_zero_of_le h]; rfl
theorem kidsF_cons {S : St} {o : Option Nat} {i : Nat} (h : i < fO S o) : kidsF S o i = nmQ S o i :: kidsF S o (i + 1) := by
  unfold kidsF
  rw [show fO S o - i = (fO S o - (i + 1)) + 1 by omega, List.range'_succ]; rfl
theorem kidsF_eq {S T : St} (e : GEq S T) (o : Option Nat) (i : Nat) : kidsF T o i = kidsF S o i := by
  have e1 : fO T o = fO S o := by
    cases o with
    | none => rfl
    | some t => rw [fO_s, fO_s, e.c, e.f]
  have e2 : nmQ T o = nmQ S o := by
    funext j
    cases o with
    | none => rfl
    | some t => rw [nmQ_s, nmQ_s, e.c, e.f, e.n]
  unfold kidsF
  rw [e1, e2]
theorem kids_eq {S T : St} (e : GEq S T) : kids T = kids S := funext fun t => kidsF_eq e (some t) 0
theorem mem_kids {S : St} {t u : Nat} : some u ∈ kids S t ↔ t < cN S ∧ ∃ i, i < fN S t ∧ nmO S t i = some u := by
  unfold kids kidsF
  simp only [List.mem_map, List.mem_range'_1]
  constructor
  · rintro ⟨i, ⟨h1, h2⟩, h3⟩
    rw [nmQ_s] at h3
    split at h3
    · rename_i q; exact ⟨q.1, i, q.2, h3⟩
    · cases h3
  · rintro ⟨hc, i, h1, h2⟩
    refine ⟨i, ⟨Nat.zero_le _, ?_⟩, ?_⟩
    · rw [fO_s, if_pos hc]; omega
    · rw [nmQ_s, if_pos ⟨hc, h1⟩]; exact h2
theorem kids_lt {S : St} (h : GW S) {t u : Nat} (hu : some u ∈ kids S t) : u < cN S := by
  obtain ⟨hc, i, h1, h2⟩ := mem_kids.mp hu
  have := (h.2.2.1 t hc).2.1
  exact ((h.2.2.1 t hc).2.2 i (by omega)).2 u h2
theorem s_addNB_L {q : Nat} (hq : 5 < q) (o : Option Nat) (ho : B80 o) : ∀ (n i : Nat) (S : St) (L : List Nat), GW S → RowIs S q L → i ≤ 3 → 3 - i < n → ∃ T, m_Gr_addNamedBy_L2 q n S (oI o) (nI i) = some T ∧ Fr (rowP q) S T ∧ RowIs T q (addsL L (kidsF S o i)) := by
  intro n
  induction n with
  | zero => intro i S L _ _ h1 h2; omega
  | succ n ih =>
    intro i S L hG hR h1 h2
    have hf := fO_le hG o
    rw [m_Gr_addNamedBy_L2, o1_e (s_fieldsOf hG o ho)]
    by_cases hi : fO S o ≤ i
    · rw [if_pos (by rw [n_le (by omega) (by omega)]; exact hi), kidsF_end hi]
      exact ⟨S, rfl, Fr.rfl', hR⟩
    · rw [if_neg (by rw [n_le (by omega) (by omega)]; exact hi), o1_e (s_nameOf hG o ho i (by omega))]
      obtain ⟨T1, e1, F1, R1⟩ := s_add hR (nmQ S o i) (fun u hu => Nat.lt_of_lt_of_le (hG.b_nq o i u hu) hG.2.1)
      rw [o1_e e1, nI_1]
      have g1 := GEq.row F1 hq
      obtain ⟨T2, e2, F2, R2⟩ := ih (i + 1) T1 _ (hG.eq g1) R1 (by omega) (by omega)
      refine ⟨T2, e2, F1.tr F2, ?_⟩
      rw [kidsF_cons (by omega)]
      rw [kidsF_eq g1] at R2
      exact R2
theorem s_addNB {q : Nat} (hq : 5 < q) {S : St} {L : List Nat} (hG : GW S) (hR : RowIs S q L) (o : Option Nat) (ho : B80 o) : ∃ T, m_Gr_addNamedBy q S (oI o) = some T ∧ Fr (rowP q) S T ∧ RowIs T q (addsL L (kidsF S o 0)) := by
  obtain ⟨T, e, F, R⟩ := s_addNB_L hq o ho 200 0 S L hG hR (by omega) (by omega)
  unfold m_Gr_addNamedBy
  rw [o1_e (show m_Gr_addNamedBy_L2 q 200 S (oI o) 0 = some T from e)]
  exact ⟨T, rfl, F, R⟩
theorem s_clo {q : Nat} (hq : 5 < q) : ∀ (n i : Nat) (S : St) (L : List Nat), GW S → RowIs S q L → i ≤ 80 → 80 - i < n → ∃ T, m_Gr_trace_L35 q n S (nI i) = some T ∧ Fr (rowP q) S T ∧ RowIs T q (clo (kids S) (80 - i) i L) := by
  intro n
  induction n with
  | zero => intro i S L _ _ h1 h2; omega
  | succ n ih =>
    intro i S L hG hR h1 h2
    have hlen := hR.len
    rw [m_Gr_trace_L35, hR.2.2.1]
    by_cases hi : L.length ≤ i
    · rw [if_pos (by rw [n_le (by omega) (by omega)]; exact hi)]
      refine ⟨S, rfl, Fr.rfl', ?_⟩
      rw [clo_n _ _ _ _ (List.getElem?_eq_none hi)]; exact hR
    · rw [if_neg (by rw [n_le (by omega) (by omega)]; exact hi)]
      by_cases h8 : i = 80
      · omega
      · rw [if_neg (by rw [show (80 : Int32) = nI 80 from rfl, n_le (by omega) (by omega)]; omega), o1_e (s_get hR i (by omega))]
        obtain ⟨t, ht⟩ : ∃ t, L[i]? = some t := ⟨L[i]'(by omega), List.getElem?_eq_getElem (by omega)⟩
        have ht8 : t < 80 := hR.2.1 t (List.mem_of_getElem? ht)
        rw [ht]
        obtain ⟨T1, e1, F1, R1⟩ := s_addNB hq hG hR (some t) (fun u hu => by cases hu; exact ht8)
        rw [o1_e e1, nI_1]
        have g1 := GEq.row F1 hq
        obtain ⟨T2, e2, F2, R2⟩ := ih (i + 1) T1 _ (hG.eq g1) R1 (by omega) (by omega)
        refine ⟨T2, e2, F1.tr F2, ?_⟩
        rw [kids_eq g1] at R2
        rw [show 80 - i = (80 - (i + 1)) + 1 by omega]
        rw [clo_s _ _ _ _ ht]
        exact R2
