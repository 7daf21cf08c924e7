/-! LAYER 2. What the decompiled functions do. -/
def oI : Option Nat → Int32
  | none => -1
  | some t => nI t
theorem oI_s (t : Nat) : oI (some t) = nI t := rfl
theorem oI_n : oI none = -1 := rfl
def zb (b : Bool) : Int32 := if b then 1 else 0
theorem zb_0 {b : Bool} : zb b = 0 ↔ b = false := by cases b <;> simp [zb]
theorem zb_1 {b : Bool} : zb b = 1 ↔ b = true := by cases b <;> simp [zb]
theorem oi_t {γ : Type} {c : Prop} [Decidable c] {x : Option γ} (h : c) : oi c x = x := if_pos h
theorem o1_e {α γ : Type} {x : Option α} {a : α} {f : α → Option γ} (h : x = some a) : o1 x f = f a := by rw [h]; rfl
theorem ob_e {α β γ : Type} {x : Option (α × β)} {a : α} {b : β} {f : α → β → Option γ} (h : x = some (a, b)) : ob x f = f a b := by rw [h]; rfl
theorem oc_e {α β γ δ : Type} {x : Option (α × β × δ)} {a : α} {b : β} {d : δ} {f : α → β → δ → Option γ} (h : x = some (a, b, d)) : oc x f = f a b d := by rw [h]; rfl
theorem nI_toInt' {n : Nat} (h : n < 2147483648) : (nI n).toInt = (n : Int) := nI_toInt h
theorem n_lt {a b : Nat} (ha : a < 2147483648) (hb : b < 2147483648) : nI a < nI b ↔ a < b := nI_ltI ha hb
theorem n_le {a b : Nat} (ha : a < 2147483648) (hb : b < 2147483648) : nI a ≤ nI b ↔ a ≤ b := nI_leI ha hb
theorem n_eq {a b : Nat} (ha : a < 2147483648) (hb : b < 2147483648) : nI a = nI b ↔ a = b := nI_eq ha hb
theorem n_cl {a : Nat} (ha : a < 2147483648) : (nI a).toNatClampNeg = a := nI_clamp ha
theorem n_in {a N : Nat} (h : a < N) (hN : N < 2147483648) : qin (nI a) N := nI_in h hN
theorem n_nneg {a : Nat} (h : a < 2147483648) : ¬ nI a < 0 := nI_pos h
theorem m1_lt {a : Nat} (h : a < 2147483648) : (-1 : Int32) < nI a := by
  rw [Int32.lt_iff_toInt_lt, nI_toInt' h]; have : (-1 : Int32).toInt = -1 := by decide
  omega
theorem m1_ne {a : Nat} (h : a < 2147483648) : ¬ nI a = -1 := by
  intro e
  have := m1_lt h
  rw [e] at this
  exact absurd this (by decide)
theorem oI_inj {a b : Option Nat} (ha : ∀ t, a = some t → t < 2147483648) (hb : ∀ t, b = some t → t < 2147483648) : oI a = oI b ↔ a = b := by
  cases a with
  | none =>
    cases b with
    | none => simp
    | some u => simp only [oI, reduceCtorEq, iff_false]; exact fun e => m1_ne (hb u rfl) e.symm
  | some t =>
    cases b with
    | none => simp only [oI, reduceCtorEq, iff_false]; exact m1_ne (ha t rfl)
    | some u => simp only [oI, Option.some.injEq]; exact n_eq (ha t rfl) (hb u rfl)
/-! frames: what a function leaves as it was -/
def Fr (P : Nat → Nat → Prop) (S T : St) : Prop := ∀ k j, ¬ P k j → T k j = S k j
theorem Fr.rfl' {P : Nat → Nat → Prop} {S : St} : Fr P S S := fun _ _ _ => rfl
theorem Fr.trans {P Q : Nat → Nat → Prop} {S T U : St} (h1 : Fr P S T) (h2 : Fr Q T U) : Fr (fun k j => P k j ∨ Q k j) S U := fun k j h => (h2 k j (fun z => h (Or.inr z))).trans (h1 k j (fun z => h (Or.inl z)))
theorem Fr.tr {P : Nat → Nat → Prop} {S T U : St} (h1 : Fr P S T) (h2 : Fr P T U) : Fr P S U := fun k j h => (h2 k j h).trans (h1 k j h)
theorem Fr.mono {P Q : Nat → Nat → Prop} {S T : St} (h : Fr P S T) (hPQ : ∀ k j, P k j → Q k j) : Fr Q S T := fun k j hn => h k j (fun z => hn (hPQ k j z))
theorem u2_e (S : St) (k j : Nat) (v : Int32) : u2 S k j v k j = v := by simp [u2, uR, upd]
theorem u2_n {S : St} {k j a b : Nat} {v : Int32} (h : ¬ (a = k ∧ b = j)) : u2 S k j v a b = S a b := by
  unfold u2 uR
  split
  · rename_i hk
    subst hk
    unfold upd
    rw [if_neg (fun e => h ⟨rfl, e⟩)]
  · rfl
theorem Fr.u2 (S : St) (k j : Nat) (v : Int32) : Fr (fun a b => a = k ∧ b = j) S (u2 S k j v) := fun _ _ h => u2_n h
/-! rows -/
def addL (L : List Nat) : Option Nat → List Nat
  | none => L
  | some t => if t ∈ L then L else L ++ [t]
theorem addL_s (L : List Nat) (t : Nat) : addL L (some t) = if t ∈ L then L else L ++ [t] := rfl
def rowP (k : Nat) : Nat → Nat → Prop := fun a j => a = k + 1 ∨ a = k + 2 ∨ (a = k ∧ j = 2)
def RowIs (S : St) (k : Nat) (L : List Nat) : Prop :=
  L.Nodup ∧ (∀ t ∈ L, t < 80) ∧ S k 2 = nI L.length ∧ (∀ (i : Nat) (t : Nat), L[i]? = some t → S (k + 1) i = nI t) ∧ ∀ t, t < 80 → S (k + 2) t = zb (decide (t ∈ L))
theorem nd_len : ∀ (n : Nat) (L : List Nat), L.Nodup → (∀ t ∈ L, t < n) → L.length ≤ n
  | 0, L, _, h => by
    cases L with
    | nil => exact Nat.le_refl _
    | cons a l => exact absurd (h a List.mem_cons_self) (Nat.not_lt_zero a)
  | n + 1, L, hn, h => by
    by_cases hm : n ∈ L
    · have h1 := nd_len n (L.erase n) (hn.erase n) (fun t ht => by
        have h2 := h t (List.mem_of_mem_erase ht)
        have h3 : t ≠ n := fun e => by
          subst e
          exact (List.Nodup.not_mem_erase hn) ht
        omega)
      rw [List.length_erase_of_mem hm] at h1
      omega
    · have h1 := nd_len n L hn (fun t ht => by
        have h2 := h t ht
        have h3 : t ≠ n := fun e => hm (e ▸ ht)
        omega)
      omega
theorem RowIs.len {S : St} {k : Nat} {L : List Nat} (h : RowIs S k L) : L.length ≤ 80 := nd_len 80 L h.1 h.2.1
theorem RowIs.of {S T : St} {k : Nat} {L : List Nat} (h : RowIs S k L) (h0 : T k 2 = S k 2) (h1 : ∀ j, T (k + 1) j = S (k + 1) j) (h2 : ∀ j, T (k + 2) j = S (k + 2) j) : RowIs T k L :=
  ⟨h.1, h.2.1, h0.trans h.2.2.1, fun i t q => (h1 i).trans (h.2.2.2.1 i t q), fun t q => (h2 t).trans (h.2.2.2.2 t q)⟩
theorem RowIs.fr {S T : St} {k : Nat} {L : List Nat} {P : Nat → Nat → Prop} (h : RowIs S k L) (hF : Fr P S T) (hP : ∀ a j, rowP k a j → ¬ P a j) : RowIs T k L :=
  h.of (hF _ _ (hP _ _ (Or.inr (Or.inr ⟨rfl, rfl⟩)))) (fun j => hF _ _ (hP _ _ (Or.inl rfl))) (fun j => hF _ _ (hP _ _ (Or.inr (Or.inl rfl))))
theorem s_empty_L (k : Nat) : ∀ (n i : Nat) (S : St), i ≤ 80 → 80 - i < n → ∃ T, m_Row_empty_L2 k n S (nI i) = some T ∧ Fr (fun a _ => a = k + 2) S T ∧ (∀ j, j < 80 → i ≤ j → T (k + 2) j = 0) ∧ ∀ j, j < i → T (k + 2) j = S (k + 2) j := by
  intro n
  induction n with
  | zero => intro i S h1 h2; omega
  | succ n ih =>
    intro i S h1 h2
    rw [m_Row_empty_L2]
    by_cases hi : i = 80
    · subst hi
      refine ⟨S, if_pos (by decide), Fr.rfl', fun j h3 h4 => by omega, fun j _ => rfl⟩
    · rw [if_neg (by rw [show (80 : Int32) = nI 80 from rfl, n_le (by omega) (by omega)]; omega), oi_t (n_in (by omega) (by omega)), nI_1, n_cl (by omega)]
      obtain ⟨T, e, hF, h3, h4⟩ := ih (i + 1) (u2 S (k + 2) i 0) (by omega) (by omega)
      refine ⟨T, e, ?_, fun j h5 h6 => ?_, fun j h5 => ?_⟩
      · exact ((Fr.u2 S (k + 2) i 0).mono (fun a j h => h.1)).tr hF
      · by_cases hj : j = i
        · subst hj; rw [h4 j (by omega), u2_e]
        · exact h3 j h5 (by omega)
      · rw [h4 j (by omega), u2_n (by omega)]
theorem s_empty (k : Nat) (S : St) : ∃ T, m_Row_empty k S = some T ∧ Fr (rowP k) S T ∧ RowIs T k [] := by
  obtain ⟨T, e, hF, h3, -⟩ := s_empty_L k 200 0 S (by omega) (by omega)
  unfold m_Row_empty
  rw [o1_e (show m_Row_empty_L2 k 200 S 0 = some T from e)]
  refine ⟨_, rfl, ?_, ?_⟩
  · refine (hF.mono (Q := rowP k) (fun a j h => Or.inr (Or.inl h))).tr ((Fr.u2 T k 2 0).mono (fun a j h => Or.inr (Or.inr h)))
  · refine ⟨List.nodup_nil, fun t h => (by cases h), (by rw [u2_e]; rfl), fun i t h => (by cases h), fun t ht => ?_⟩
    rw [u2_n (by omega), h3 t ht (Nat.zero_le _)]
    simp [zb]
theorem addL_nodup {L : List Nat} {o : Option Nat} (h : L.Nodup) : (addL L o).Nodup := by
  cases o with
  | none => exact h
  | some t =>
    rw [addL_s]
    split
    · exact h
    · rename_i hn
      rw [List.nodup_append]
      refine ⟨h, by simp, fun a ha b hb e => ?_⟩
      have : b = t := List.mem_singleton.mp hb
      exact hn (this ▸ e ▸ ha)
theorem mem_addL {L : List Nat} {o : Option Nat} {t : Nat} : t ∈ addL L o ↔ t ∈ L ∨ o = some t := by
  cases o with
  | none => simp [addL]
  | some u =>
    rw [addL_s]
    split
    · rename_i hu
      constructor
      · exact Or.inl
      · rintro (h | h)
        · exact h
        · cases h; exact hu
    · simp only [List.mem_append, List.mem_singleton, Option.some.injEq]
      constructor
      · rintro (h | h)
        · exact Or.inl h
        · exact Or.inr h.symm
      · rintro (h | h)
        · exact Or.inl h
        · exact Or.inr h.symm
theorem s_add {k : Nat} {S : St} {L : List Nat} (h : RowIs S k L) (o : Option Nat) (ho : ∀ t, o = some t → t < 80) : ∃ T, m_Row_add k S (oI o) = some T ∧ Fr (rowP k) S T ∧ RowIs T k (addL L o) := by
  obtain ⟨h1, h2, h3, h4, h5⟩ := h
  cases o with
  | none =>
    rw [oI_n]
    unfold m_Row_add
    exact ⟨S, if_pos (by decide), Fr.rfl', h1, h2, h3, h4, h5⟩
  | some t =>
    have ht := ho t rfl
    rw [oI_s]
    unfold m_Row_add
    rw [if_neg (n_nneg (by omega)), if_neg (by rw [show (80 : Int32) = nI 80 from rfl, n_le (by omega) (by omega)]; omega), oi_t (n_in (by omega) (by omega))]
    simp only [n_cl (show t < 2147483648 by omega), h5 t ht]
    by_cases hm : t ∈ L
    · rw [if_neg (by rw [zb_0]; simp [hm])]
      refine ⟨S, rfl, Fr.rfl', ?_⟩
      rw [show addL L (some t) = L by simp [addL, hm]]
      exact ⟨h1, h2, h3, h4, h5⟩
    · rw [if_pos (by rw [zb_0]; simp [hm])]
      have hlen : L.length < 80 := by
        have := nd_len 80 (t :: L) (List.nodup_cons.mpr ⟨hm, h1⟩) (fun u hu => by
          rcases List.mem_cons.mp hu with e | e
          · rw [e]; exact ht
          · exact h2 u e)
        simp only [List.length_cons] at this
        omega
      rw [h3, if_pos (by rw [show (80 : Int32) = nI 80 from rfl, n_lt (by omega) (by omega)]; exact hlen), oi_t (n_in (by omega) (by omega)), oi_t (n_in (by omega) (by omega))]
      simp only [n_cl (show L.length < 2147483648 by omega), nI_1]
      refine ⟨_, rfl, ?_, ?_⟩
      · refine Fr.tr (T := u2 S (k + 2) t 1) ((Fr.u2 _ _ _ _).mono (fun a j h => Or.inr (Or.inl h.1))) (Fr.tr (T := u2 (u2 S (k + 2) t 1) (k + 1) L.length (nI t)) ((Fr.u2 _ _ _ _).mono (fun a j h => Or.inl h.1)) ((Fr.u2 _ _ _ _).mono (fun a j h => Or.inr (Or.inr h))))
      · have e : addL L (some t) = L ++ [t] := by simp [addL, hm]
        rw [e]
        refine ⟨by rw [← e]; exact addL_nodup h1, fun u hu => ?_, ?_, fun i u hi => ?_, fun u hu => ?_⟩
        · rcases List.mem_append.mp hu with q | q
          · exact h2 u q
          · rw [List.mem_singleton.mp q]; exact ht
        · rw [u2_e, List.length_append]; rfl
        · rw [u2_n (by omega)]
          by_cases hiL : i < L.length
          · rw [List.getElem?_append_left hiL] at hi
            rw [u2_n (by omega), u2_n (by omega)]
            exact h4 i u hi
          · have hb := (List.getElem?_eq_some_iff.mp hi).1
            rw [List.length_append] at hb
            simp only [List.length_cons, List.length_nil] at hb
            have hil : i = L.length := by omega
            subst hil
            rw [List.getElem?_append_right (Nat.le_refl _), Nat.sub_self] at hi
            cases hi
            rw [u2_e]
        · rw [u2_n (by omega), u2_n (by omega)]
          by_cases hut : u = t
          · subst hut
            rw [u2_e]
            simp [zb]
          · rw [u2_n (by omega), h5 u hu]
            simp [hut]
theorem s_get {k : Nat} {S : St} {L : List Nat} (h : RowIs S k L) (i : Nat) (hi : i < 1000) : m_Row_get k S (nI i) = some (oI L[i]?) := by
  have hlen := h.len
  obtain ⟨h1, h2, h3, h4, h5⟩ := h
  unfold m_Row_get
  rw [if_neg (n_nneg (by omega)), h3]
  by_cases hl : i < L.length
  · rw [if_neg (by rw [n_le (by omega) (by omega)]; omega), oi_t (n_in (by omega) (by omega)), n_cl (by omega)]
    obtain ⟨t, ht⟩ : ∃ t, L[i]? = some t := ⟨L[i], List.getElem?_eq_getElem hl⟩
    rw [ht, h4 i t ht]
    rfl
  · rw [if_pos (by rw [n_le (by omega) (by omega)]; omega), List.getElem?_eq_none (by omega)]
    rfl
theorem s_holds {k : Nat} {S : St} {L : List Nat} (h : RowIs S k L) (o : Option Nat) (ho : ∀ t, o = some t → t < 80) : m_Row_holds k S (oI o) = some (zb (match o with | none => false | some t => decide (t ∈ L))) := by
  obtain ⟨h1, h2, h3, h4, h5⟩ := h
  cases o with
  | none =>
    rw [oI_n]
    unfold m_Row_holds
    exact if_pos (by decide)
  | some t =>
    have ht := ho t rfl
    rw [oI_s]
    unfold m_Row_holds
    rw [if_neg (n_nneg (by omega)), if_neg (by rw [show (80 : Int32) = nI 80 from rfl, n_le (by omega) (by omega)]; omega), oi_t (n_in (by omega) (by omega)), n_cl (by omega), h5 t ht]
    by_cases hm : t ∈ L
    · rw [if_neg (by rw [zb_0]; simp [hm])]; simp [zb, hm]
    · rw [if_pos (by rw [zb_0]; simp [hm])]; simp [zb, hm]
