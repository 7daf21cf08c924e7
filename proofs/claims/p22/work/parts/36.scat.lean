/-! stores whose things lie scattered -/
theorem GEq.ge {S T : St} {P : Nat → Nat → Prop} (h : Fr P S T) (hP : ∀ a j, P a j → 12 ≤ a) : GEq S T := GEq.of h (fun a j q => by have := hP a j q; omega)
def tk (S : St) (k x : Nat) : Prop := ∃ t, t < cN S ∧ hB S k t = true ∧ pl S k t ≤ x ∧ x < pl S k t + wN S t
theorem s_clear_L (k : Nat) : ∀ (n i : Nat) (S : St), i ≤ 160 → 160 - i < n → ∃ T, m_Sc_markTaken_L2 k n S (nI i) = some T ∧ Fr (fun a _ => a = k + 3) S T ∧ (∀ j, j < 160 → i ≤ j → T (k + 3) j = 0) ∧ ∀ j, j < i → T (k + 3) j = S (k + 3) j := by
  intro n
  induction n with
  | zero => intro i S h1 h2; omega
  | succ n ih =>
    intro i S h1 h2
    rw [m_Sc_markTaken_L2]
    by_cases hi : i = 160
    · subst hi
      exact ⟨S, if_pos (by decide), Fr.rfl', fun j h3 h4 => by omega, fun j _ => rfl⟩
    · rw [if_neg (by rw [show (160 : Int32) = nI 160 from rfl, n_le (by omega) (by omega)]; omega), oi_t (n_in (by omega) (by omega)), nI_1, n_cl (by omega)]
      obtain ⟨T, e, hF, h3, h4⟩ := ih (i + 1) (u2 S (k + 3) i 0) (by omega) (by omega)
      refine ⟨T, e, ((Fr.u2 S (k + 3) i 0).mono (fun a j h => h.1)).tr hF, fun j h5 h6 => ?_, fun j h5 => ?_⟩
      · by_cases hj : j = i
        · subst hj; rw [h4 j (by omega), u2_e]
        · exact h3 j h5 (by omega)
      · rw [h4 j (by omega), u2_n (by omega)]
theorem s_by_L (k e : Nat) (he : e ≤ 160) : ∀ (n i : Nat) (S : St), i ≤ e → e - i < n → ∃ T, m_Sc_markTakenBy_L20 k n S (nI e) (nI i) = some T ∧ Fr (fun a _ => a = k + 3) S T ∧ (∀ j, i ≤ j → j < e → T (k + 3) j = 1) ∧ ∀ j, (j < i ∨ e ≤ j) → T (k + 3) j = S (k + 3) j := by
  intro n
  induction n with
  | zero => intro i S h1 h2; omega
  | succ n ih =>
    intro i S h1 h2
    rw [m_Sc_markTakenBy_L20, if_neg (n_nneg (by omega))]
    by_cases hi : i = e
    · subst hi
      exact ⟨S, if_pos (by rw [n_le (by omega) (by omega)]; omega), Fr.rfl', fun j h3 h4 => by omega, fun j _ => rfl⟩
    · rw [if_neg (by rw [n_le (by omega) (by omega)]; omega), if_neg (by rw [show (160 : Int32) = nI 160 from rfl, n_le (by omega) (by omega)]; omega), oi_t (n_in (by omega) (by omega)), nI_1, n_cl (by omega)]
      obtain ⟨T, e1, hF, h3, h4⟩ := ih (i + 1) (u2 S (k + 3) i 1) (by omega) (by omega)
      refine ⟨T, e1, ((Fr.u2 S (k + 3) i 1).mono (fun a j h => h.1)).tr hF, fun j h5 h6 => ?_, fun j h5 => ?_⟩
      · by_cases hj : j = i
        · subst hj; rw [h4 j (by omega), u2_e]
        · exact h3 j (by omega) h6
      · rw [h4 j (by omega), u2_n (by omega)]
theorem s_mt_L {k M : Nat} (hk : 12 ≤ k) (hM : M ≤ 160) : ∀ (n i : Nat) (S : St), GW S → PO S k M → i ≤ cN S → cN S - i < n → ∃ T, m_Sc_markTaken_L24 k n S (nI i) = some T ∧ Fr (fun a _ => a = k + 3) S T ∧
    ∀ x, x < 160 → ((∃ t, i ≤ t ∧ t < cN S ∧ hB S k t = true ∧ pl S k t ≤ x ∧ x < pl S k t + wN S t) → T (k + 3) x = 1) ∧ ((¬ ∃ t, i ≤ t ∧ t < cN S ∧ hB S k t = true ∧ pl S k t ≤ x ∧ x < pl S k t + wN S t) → T (k + 3) x = S (k + 3) x) := by
  intro n
  induction n with
  | zero => intro i S _ _ h1 h2; omega
  | succ n ih =>
    intro i S hG hP h1 h2
    have h80 := hG.2.1
    rw [m_Sc_markTaken_L24, hG.1]
    by_cases hi : cN S ≤ i
    · rw [if_pos (by rw [n_le (by omega) (by omega)]; exact hi)]
      exact ⟨S, rfl, Fr.rfl', fun x _ => ⟨fun ⟨t, a, b, _⟩ => by omega, fun _ => rfl⟩⟩
    · rw [if_neg (by rw [n_le (by omega) (by omega)]; exact hi), o1_e (s_hasN (by omega)), nI_1]
      by_cases hh : hB S k i = true
      · obtain ⟨p1, p2⟩ := hP.1 i (by omega) hh
        obtain ⟨T, e, F, h3, h4⟩ := s_by_L k (pl S k i + wN S i) (by omega) 200 (pl S k i) S (by omega) (by have := wN_le hG (t := i) (by omega); omega)
        have e1 : m_Sc_markTakenBy k S (nI i) = some T := by
          unfold m_Sc_markTakenBy
          rw [o1_e (s_placeOf k 1 S (by omega)), if_pos hh, o1_e (s_wordsN hG (by omega)), p1, nI_add, o1_e e]
        rw [hh, if_neg (by decide), o1_e e1]
        have g := GEq.ge F (fun a j q => by omega)
        have gb : ∀ t, hB T k t = hB S k t := fun t => hB_eq (fun j => F _ _ (by omega)) t
        have gp : ∀ t, pl T k t = pl S k t := fun t => by unfold pl; rw [F (k + 2) t (by omega)]
        have hPT : PO T k M := by
          refine ⟨fun t ht hb => ?_, fun t u ht hu htu hb hb' => ?_⟩
          · rw [gp, wN_eq g, F (k + 2) t (by omega)]; rw [gb] at hb; rw [g.c] at ht; exact hP.1 t ht hb
          · rw [gp, gp, wN_eq g]; rw [gb] at hb hb'; rw [g.c] at ht hu; exact hP.2 t u ht hu htu hb hb'
        obtain ⟨U, e2, F2, h5⟩ := ih (i + 1) T (hG.eq g) hPT (by rw [g.c]; omega) (by rw [g.c]; omega)
        refine ⟨U, e2, F.tr F2, fun x hx => ?_⟩
        have h6 := h5 x hx
        simp only [g.c, gb, gp, wN_eq g] at h6
        by_cases hxx : ∃ t, i + 1 ≤ t ∧ t < cN S ∧ hB S k t = true ∧ pl S k t ≤ x ∧ x < pl S k t + wN S t
        · have h7 := h6.1 hxx
          obtain ⟨t, a, b⟩ := hxx
          exact ⟨fun _ => h7, fun hn => absurd ⟨t, by omega, b⟩ hn⟩
        · have h7 := h6.2 hxx
          by_cases hin : pl S k i ≤ x ∧ x < pl S k i + wN S i
          · have h8 := h3 x hin.1 hin.2
            exact ⟨fun _ => h7.trans h8, fun hn => absurd ⟨i, Nat.le_refl _, by omega, hh, hin⟩ hn⟩
          · have h8 := h4 x (by omega)
            refine ⟨fun ⟨t, a, b, c⟩ => ?_, fun _ => h7.trans h8⟩
            by_cases hti : t = i
            · subst hti; exact absurd c.2 hin
            · exact absurd ⟨t, by omega, b, c⟩ hxx
      · rw [Bool.eq_false_iff.mpr hh, if_pos (show zb false = 0 from rfl)]
        obtain ⟨U, e2, F2, h5⟩ := ih (i + 1) S hG hP (by omega) (by omega)
        refine ⟨U, e2, F2, fun x hx => ⟨fun ⟨t, a, b, c⟩ => (h5 x hx).1 ⟨t, ?_, b, c⟩, fun hn => (h5 x hx).2 (fun ⟨t, a, b, c⟩ => hn ⟨t, by omega, b, c⟩)⟩⟩
        have : t ≠ i := fun q => by subst q; exact hh c.1
        omega
theorem s_markTaken {k M : Nat} (hk : 12 ≤ k) (hM : M ≤ 160) {S : St} (hG : GW S) (hP : PO S k M) : ∃ T, m_Sc_markTaken k S = some T ∧ Fr (fun a _ => a = k + 3) S T ∧ ∀ x, x < 160 → (tk S k x → T (k + 3) x = 1) ∧ (¬ tk S k x → T (k + 3) x = 0) := by
  have h80 := hG.2.1
  obtain ⟨T, e, F, h0, -⟩ := s_clear_L k 200 0 S (by omega) (by omega)
  have g := GEq.ge F (fun a j q => by omega)
  have gb : ∀ t, hB T k t = hB S k t := fun t => hB_eq (fun j => F _ _ (by omega)) t
  have gp : ∀ t, pl T k t = pl S k t := fun t => by unfold pl; rw [F (k + 2) t (by omega)]
  have hPT : PO T k M := by
    refine ⟨fun t ht hb => ?_, fun t u ht hu htu hb hb' => ?_⟩
    · rw [gp, wN_eq g, F (k + 2) t (by omega)]; rw [gb] at hb; rw [g.c] at ht; exact hP.1 t ht hb
    · rw [gp, gp, wN_eq g]; rw [gb] at hb hb'; rw [g.c] at ht hu; exact hP.2 t u ht hu htu hb hb'
  obtain ⟨U, e2, F2, h5⟩ := s_mt_L hk hM 200 0 T (hG.eq g) hPT (Nat.zero_le _) (by rw [g.c]; omega)
  unfold m_Sc_markTaken
  rw [o1_e (show m_Sc_markTaken_L2 k 200 S 0 = some T from e), o1_e (show m_Sc_markTaken_L24 k 200 T 0 = some U from e2)]
  refine ⟨U, rfl, F.tr F2, fun x hx => ?_⟩
  have h6 := h5 x hx
  simp only [g.c, gb, gp, wN_eq g] at h6
  exact ⟨fun ⟨t, q⟩ => h6.1 ⟨t, Nat.zero_le _, q⟩, fun hn => (h6.2 (fun ⟨t, _, q⟩ => hn ⟨t, q⟩)).trans (h0 x hx (Nat.zero_le _))⟩
theorem sub1 {p w : Nat} (h : w ≤ p + 1) : nI p - nI w + 1 = nI (p + 1 - w) := by
  rw [Int32.sub_eq_add_neg, Int32.add_assoc, Int32.add_comm (-(nI w)) 1, ← Int32.add_assoc, ← Int32.sub_eq_add_neg, nI_1, pk_sub h]
theorem s_fp_L {k M w : Nat} (hM : M < 160) (hw : 0 < w) (hw4 : w ≤ 4) : ∀ (n p r : Nat) (S : St), S k 2 = nI M → p ≤ M → r ≤ p → r < w → M - p < n → (∀ x, p - r ≤ x → x < p → S (k + 3) x = 0) →
    ∃ v, m_Sc_firstPlaceFor_L18 k n S (nI w) (nI r) (nI p) = some (v, S) ∧ (v = -1 ∨ ∃ q, v = nI q ∧ q + w ≤ M ∧ ∀ x, q ≤ x → x < q + w → S (k + 3) x = 0) := by
  intro n
  induction n with
  | zero => intro p r S _ h1 h2 h3 h4; omega
  | succ n ih =>
    intro p r S hS h1 h2 h3 h4 hf
    rw [m_Sc_firstPlaceFor_L18, hS]
    by_cases hp : M ≤ p
    · rw [if_pos (by rw [n_le (by omega) (by omega)]; exact hp)]
      exact ⟨-1, rfl, Or.inl rfl⟩
    · rw [if_neg (by rw [n_le (by omega) (by omega)]; exact hp), if_neg (by rw [show (160 : Int32) = nI 160 from rfl, n_le (by omega) (by omega)]; omega), oi_t (n_in (by omega) (by omega)), nI_1, nI_1]
      simp only [n_cl (show p < 2147483648 by omega)]
      by_cases h0 : S (k + 3) p = 0
      · have hf' : ∀ x, p + 1 - (r + 1) ≤ x → x < p + 1 → S (k + 3) x = 0 := fun x a b => by
          by_cases hx : x = p
          · rw [hx]; exact h0
          · exact hf x (by omega) (by omega)
        rw [if_pos h0]
        by_cases hr : r + 1 = w
        · rw [if_pos (by rw [hr]), sub1 (by omega)]
          exact ⟨_, rfl, Or.inr ⟨_, rfl, by omega, fun x a b => hf' x (by omega) (by omega)⟩⟩
        · rw [if_neg (by rw [n_eq (by omega) (by omega)]; exact hr)]
          exact ih (p + 1) (r + 1) S hS (by omega) (by omega) (by omega) (by omega) hf'
      · rw [if_neg h0, if_neg (by rw [show (0 : Int32) = nI 0 from rfl, n_eq (by omega) (by omega)]; omega)]
        exact ih (p + 1) 0 S hS (by omega) (by omega) (by omega) (by omega) (fun x a b => by omega)
theorem s_firstPlace {k M : Nat} (hk : 12 ≤ k) (hM : M < 160) {S : St} (hG : GW S) (hP : PO S k M) (hS : S k 2 = nI M) {t : Nat} (ht : t < cN S) :
    ∃ v T, m_Sc_firstPlaceFor k S (nI t) = some (v, T) ∧ Fr (fun a _ => a = k + 3) S T ∧ (v = -1 ∨ ∃ q, v = nI q ∧ q + wN S t ≤ M ∧ ∀ x, q ≤ x → x < q + wN S t → ¬ tk S k x) := by
  obtain ⟨T, e, F, h⟩ := s_markTaken hk (by omega) hG hP
  obtain ⟨v, e2, h2⟩ := s_fp_L (k := k) hM (wN_pos S t) (wN_le hG ht) 200 0 0 T ((F k 2 (by omega)).trans hS) (Nat.zero_le _) (Nat.le_refl _) (wN_pos S t) (by omega) (fun x a b => by omega)
  unfold m_Sc_firstPlaceFor
  rw [o1_e (s_wordsN hG ht), o1_e e]
  refine ⟨v, T, e2, F, ?_⟩
  rcases h2 with q | ⟨q, a, b, c⟩
  · exact Or.inl q
  · refine Or.inr ⟨q, a, b, fun x h3 h4 hx => ?_⟩
    have := c x h3 h4
    rw [(h x (by omega)).1 hx] at this
    exact absurd this (by decide)
theorem s_ft_L {k M : Nat} (hM : M < 160) : ∀ (n i : Nat) (a b : Int32) (S T : St), S k 2 = nI M → T k 2 = nI M → (∀ x, x < 160 → T (k + 3) x = S (k + 3) x) → i ≤ M → M - i < n →
    ∃ r, m_Sc_freeTogether_L10 k n S a b (nI i) = some r ∧ m_Sc_freeTogether_L10 k n T a b (nI i) = some r := by
  intro n
  induction n with
  | zero => intro i a b S T _ _ _ h1 h2; omega
  | succ n ih =>
    intro i a b S T hS hT hx h1 h2
    rw [m_Sc_freeTogether_L10, m_Sc_freeTogether_L10, hS, hT]
    by_cases hp : M ≤ i
    · rw [if_pos (by rw [n_le (by omega) (by omega)]; exact hp), if_pos (by rw [n_le (by omega) (by omega)]; exact hp)]
      exact ⟨a, rfl, rfl⟩
    · have c1 : ¬ nI M ≤ nI i := by rw [n_le (by omega) (by omega)]; exact hp
      have c2 : ¬ (160 : Int32) ≤ nI i := by rw [show (160 : Int32) = nI 160 from rfl, n_le (by omega) (by omega)]; omega
      rw [if_neg c1, if_neg c1, if_neg c2, if_neg c2, oi_t (n_in (by omega) (by omega)), oi_t (n_in (by omega) (by omega)), nI_1]
      simp only [n_cl (show i < 2147483648 by omega)]
      rw [hx i (by omega)]
      by_cases h0 : S (k + 3) i = 0
      · rw [if_pos h0, if_pos h0]
        exact ih (i + 1) _ _ S T hS hT hx (by omega) (by omega)
      · rw [if_neg h0, if_neg h0]
        exact ih (i + 1) _ _ S T hS hT hx (by omega) (by omega)
theorem s_freeTogether {k M : Nat} (hk : 12 ≤ k) (hM : M < 160) {S T : St} (hG : GW S) (hP : PO S k M) (hS : S k 2 = nI M) (g : GEq S T) (h2 : T k 2 = S k 2) (hb : ∀ j, T (k + 1) j = S (k + 1) j) (hp : ∀ j, T (k + 2) j = S (k + 2) j) :
    ∃ r S' T', m_Sc_freeTogether k S = some (r, S') ∧ m_Sc_freeTogether k T = some (r, T') ∧ Fr (fun a _ => a = k + 3) S S' ∧ Fr (fun a _ => a = k + 3) T T' := by
  have gb : ∀ t, hB T k t = hB S k t := fun t => hB_eq hb t
  have gp : ∀ t, pl T k t = pl S k t := fun t => by unfold pl; rw [hp]
  have hPT : PO T k M := by
    refine ⟨fun t ht hb => ?_, fun t u ht hu htu hb hb' => ?_⟩
    · rw [gp, wN_eq g, hp]; rw [gb] at hb; rw [g.c] at ht; exact hP.1 t ht hb
    · rw [gp, gp, wN_eq g]; rw [gb] at hb hb'; rw [g.c] at ht hu; exact hP.2 t u ht hu htu hb hb'
  obtain ⟨S', e1, F1, h3⟩ := s_markTaken hk (by omega) hG hP
  obtain ⟨T', e2, F2, h4⟩ := s_markTaken hk (by omega) (hG.eq g) hPT
  have ht : ∀ x, tk T k x ↔ tk S k x := fun x => by unfold tk; simp only [g.c, gb, gp, wN_eq g]
  obtain ⟨r, a, b⟩ := s_ft_L (k := k) hM 200 0 0 0 S' T' ((F1 k 2 (by omega)).trans hS) ((F2 k 2 (by omega)).trans (h2.trans hS)) (fun x hx => by
    by_cases q : tk S k x
    · rw [(h3 x hx).1 q, (h4 x hx).1 ((ht x).mpr q)]
    · rw [(h3 x hx).2 q, (h4 x hx).2 (fun z => q ((ht x).mp z))]) (Nat.zero_le _) (by omega)
  refine ⟨r, S', T', ?_, ?_, F1, F2⟩
  · unfold m_Sc_freeTogether
    rw [o1_e e1, o1_e (show m_Sc_freeTogether_L10 k 200 S' 0 0 0 = some r from a)]
  · unfold m_Sc_freeTogether
    rw [o1_e e2, o1_e (show m_Sc_freeTogether_L10 k 200 T' 0 0 0 = some r from b)]
theorem PO.tr {S T : St} {k M : Nat} (hP : PO S k M) (hC : ∀ t, t < cN T → hB T k t = true → t < cN S ∧ hB S k t = true) (hw : ∀ t, t < cN S → wN T t = wN S t) (h2 : ∀ j, T (k + 2) j = S (k + 2) j) : PO T k M := by
  have gp : ∀ t, pl T k t = pl S k t := fun t => by unfold pl; rw [h2]
  refine ⟨fun t ht hb => ?_, fun t u ht hu htu hb hb' => ?_⟩
  · obtain ⟨a, b⟩ := hC t ht hb
    rw [gp, hw t a, h2]; exact hP.1 t a b
  · obtain ⟨a, b⟩ := hC t ht hb
    obtain ⟨c, d⟩ := hC u hu hb'
    rw [gp, gp, hw t a, hw u c]; exact hP.2 t u a c htu b d
theorem tk_free {S : St} {k q w u : Nat} (hw : 0 < w) (hu : u < cN S) (hb : hB S k u = true) (h : ∀ x, q ≤ x → x < q + w → ¬ tk S k x) : pl S k u + wN S u ≤ q ∨ q + w ≤ pl S k u := by
  have hwu := wN_pos S u
  by_cases h1 : pl S k u + wN S u ≤ q
  · exact Or.inl h1
  · by_cases h2 : q + w ≤ pl S k u
    · exact Or.inr h2
    · exfalso
      by_cases h3 : q ≤ pl S k u
      · exact h (pl S k u) h3 (by omega) ⟨u, hu, hb, Nat.le_refl _, by omega⟩
      · exact h q (Nat.le_refl _) (by omega) ⟨u, hu, hb, by omega, by omega⟩
theorem PO.put {S T : St} {k M t q : Nat} (hP : PO S k M) (g : GEq S T) (hM : M < 1000) (ht : t < cN S) (h1' : ∀ u, u ≠ t → T (k + 1) u = S (k + 1) u) (h2 : T (k + 2) t = nI q) (h2' : ∀ u, u ≠ t → T (k + 2) u = S (k + 2) u)
    (hq : q + wN S t ≤ M) (hf : ∀ x, q ≤ x → x < q + wN S t → ¬ tk S k x) : PO T k M := by
  have hb : ∀ u, u ≠ t → hB T k u = hB S k u := fun u hu => by unfold hB; rw [h1' u hu]
  have p1 : pl T k t = q := by unfold pl; rw [h2, n_cl (by omega)]
  have p2 : ∀ u, u ≠ t → pl T k u = pl S k u := fun u hu => by unfold pl; rw [h2' u hu]
  refine ⟨fun u hu hbu => ?_, fun u v hu hv huv hbu hbv => ?_⟩
  · rw [wN_eq g]
    by_cases hut : u = t
    · subst hut; rw [p1, h2]; exact ⟨rfl, hq⟩
    · rw [p2 u hut, h2' u hut]
      rw [hb u hut] at hbu; rw [g.c] at hu
      exact hP.1 u hu hbu
  · rw [wN_eq g]
    rw [g.c] at hu hv
    by_cases hut : u = t
    · subst hut
      have hvu : v ≠ u := fun z => huv z.symm
      rw [hb v hvu] at hbv
      rw [p1, p2 v hvu]
      exact (tk_free (wN_pos S u) hv hbv hf).symm
    · rw [hb u hut] at hbu
      by_cases hvt : v = t
      · subst hvt
        rw [p1, p2 u hut]
        exact tk_free (wN_pos S v) hu hbu hf
      · rw [hb v hvt] at hbv
        rw [p2 u hut, p2 v hvt]
        exact hP.2 u v hu hv huv hbu hbv
