theorem hv.fr {S T : St} {k d t : Nat} (h : hv S k d t) (h5 : T k (d + 5) = S k (d + 5)) (hb : T (k + 1) t = S (k + 1) t) : hv T k d t := fun q => by
  rw [h5] at q
  have := h q
  unfold hB at this ⊢
  rw [hb]; exact this
theorem hB1 {S T : St} {k t : Nat} (hb : T (k + 1) t = S (k + 1) t) : hB T k t = hB S k t := by unfold hB; rw [hb]
theorem s_mkU {S : St} {M t r : Nat} {A W : Nat → Nat} (hM160 : M < 160) (hG : GI S) (hC : CoI S M) (hN : NuI S M) (hM : MaI S M) (hU : CuI S M) (ht : t < cN S) (htr : t ∉ rcL S) (hk : ∀ u, some u ∉ kids S t) (hn : ∀ u, some t ∉ kids S u) (h42 : hB S 42 t = false)
    (h0 : hv S 12 0 t) (h1 : hv S 18 0 t) (h2 : hv S 31 1 t) (hr : r < 6) (q : Q4 S A W) (hB : ∀ s, W s ≤ 1400000000) :
    ∃ T W', mkU (nI r) (nI t) S = some (nI t, T) ∧ INV T M ∧ cN T = cN S ∧ P4 T A W' ∧ ∀ s, W s ≤ W' s ∧ W' s ≤ W s + 380 := by
  unfold mkU
  by_cases h6 : S 42 6 = 0
  · obtain ⟨U, e, F, hJ, w, k1, k2, k3⟩ := s_couPlace hG.1 hM160 hU h6 q.2.2.2.1 ht htr h42 hk hn
    have g := geq_Cu F
    have hGU : GI U := hG.eq g (fun j => F _ _ (by unfold fCu; omega))
    have q2 : Q4 U A (upW W 3 w) := by
      obtain ⟨a, b, c, d⟩ := q
      exact ⟨a.fr (F _ _ (by unfold fCu; omega)) (F _ _ (by unfold fCu; omega)) (F _ _ (by unfold fCu; omega)), b.fr (F _ _ (by unfold fCu; omega)) (F _ _ (by unfold fCu; omega)) (F _ _ (by unfold fCu; omega)),
        c.fr (F _ _ (by unfold fCu; omega)) (F _ _ (by unfold fCu; omega)) (F _ _ (by unfold fCu; omega)), d.up k1 k2 (F _ _ (by unfold fCu; omega)) (F _ _ (by unfold fCu; omega))⟩
    have hb : ∀ s, W s ≤ upW W 3 w s ∧ upW W 3 w s ≤ W s + 80 := fun s => by
      unfold upW
      by_cases z : s = 3
      · rw [if_pos z, z]; omega
      · rw [if_neg z]; omega
    obtain ⟨T, W', e2, a1, a2, a3, a4⟩ := s_mkF hGU (co_fr hC hGU.1 g (fun a j x y z => F _ _ (by unfold fCu; omega))) (nu_fr hN hGU.1 g (fun a j x y z => F _ _ (by unfold fCu; omega))) (ma_fr hM g (fun a j x y z => F _ _ (by unfold fCu; omega))) hJ
      (by rw [g.c]; exact ht) (by rw [rcL_eq g]; exact htr) (by rw [kids_eq g]; exact hk) (h0.fr (F _ _ (by unfold fCu; omega)) (F _ _ (by unfold fCu; omega))) (h1.fr (F _ _ (by unfold fCu; omega)) (F _ _ (by unfold fCu; omega))) (h2.fr (F _ _ (by unfold fCu; omega)) (F _ _ (by unfold fCu; omega))) hr q2 (fun s => by have := hb s; have := hB s; omega)
    rw [if_pos h6, o1_e e]
    exact ⟨T, W', e2, a1, by rw [a2, g.c], a3, fun s => by have := hb s; have := a4 s; omega⟩
  · rw [if_neg h6]
    obtain ⟨T, W', e2, a1, a2, a3, a4⟩ := s_mkF hG hC hN hM ⟨hU.1, fun z => absurd z h6⟩ ht htr hk h0 h1 h2 hr q (fun s => by have := hB s; omega)
    exact ⟨T, W', e2, a1, a2, a3, fun s => by have := a4 s; omega⟩
theorem s_mkM {S : St} {M t r : Nat} {A W : Nat → Nat} (hM160 : M < 160) (hG : GI S) (hC : CoI S M) (hN : NuI S M) (hM : MaI S M) (hU : CuI S M) (ht : t < cN S) (htr : t ∉ rcL S) (hk : ∀ u, some u ∉ kids S t) (hn : ∀ u, some t ∉ kids S u) (h42 : hB S 42 t = false) (h31 : hB S 31 t = false)
    (h0 : hv S 12 0 t) (h1 : hv S 18 0 t) (hr : r < 6) (q : Q4 S A W) (hB : ∀ s, W s ≤ 1300000000) :
    ∃ T W', mkM (nI r) (nI t) S = some (nI t, T) ∧ INV T M ∧ cN T = cN S ∧ P4 T A W' ∧ ∀ s, W s ≤ W' s ∧ W' s ≤ W s + 1380 := by
  unfold mkM
  by_cases h6 : S 31 6 = 0
  · obtain ⟨U, e, F, hI, hh, w, k1, k2, k3⟩ := s_maPlace hG.1 hM160 hM h6 q.2.2.1.1 ht htr h31 hk
    have g := geq_Ma F
    have hGU : GI U := hG.eq g (fun j => F _ _ (by unfold fMa; omega))
    have q2 : Q4 U A (upW W 2 w) := by
      obtain ⟨a, b, c, d⟩ := q
      exact ⟨a.fr (F _ _ (by unfold fMa; omega)) (F _ _ (by unfold fMa; omega)) (F _ _ (by unfold fMa; omega)), b.fr (F _ _ (by unfold fMa; omega)) (F _ _ (by unfold fMa; omega)) (F _ _ (by unfold fMa; omega)),
        c.up k1 k2 (F _ _ (by unfold fMa; omega)) (F _ _ (by unfold fMa; omega)), d.fr (F _ _ (by unfold fMa; omega)) (F _ _ (by unfold fMa; omega)) (F _ _ (by unfold fMa; omega))⟩
    have hb : ∀ s, W s ≤ upW W 2 w s ∧ upW W 2 w s ≤ W s + 1000 := fun s => by
      unfold upW
      by_cases z : s = 2
      · rw [if_pos z, z]; omega
      · rw [if_neg z]; omega
    obtain ⟨T, W', e2, a1, a2, a3, a4⟩ := s_mkU hM160 hGU (co_fr hC hGU.1 g (fun a j x y z => F _ _ (by unfold fMa; omega))) (nu_fr hN hGU.1 g (fun a j x y z => F _ _ (by unfold fMa; omega))) hI (cu_fr hU g (fun a j x y => F _ _ (by unfold fMa; omega)))
      (by rw [g.c]; exact ht) (by rw [rcL_eq g]; exact htr) (by rw [kids_eq g]; exact hk) (by rw [kids_eq g]; exact hn) (by rw [hB1 (F _ _ (by unfold fMa; omega))]; exact h42) (h0.fr (F _ _ (by unfold fMa; omega)) (F _ _ (by unfold fMa; omega))) (h1.fr (F _ _ (by unfold fMa; omega)) (F _ _ (by unfold fMa; omega))) hh hr q2 (fun s => by have := hb s; have := hB s; omega)
    rw [if_pos h6, o1_e e]
    exact ⟨T, W', e2, a1, by rw [a2, g.c], a3, fun s => by have := hb s; have := a4 s; omega⟩
  · rw [if_neg h6]
    obtain ⟨T, W', e2, a1, a2, a3, a4⟩ := s_mkU hM160 hG hC hN hM hU ht htr hk hn h42 h0 h1 (fun z => absurd z h6) hr q (fun s => by have := hB s; omega)
    exact ⟨T, W', e2, a1, a2, a3, fun s => by have := a4 s; omega⟩
theorem s_mkN {S : St} {M t r : Nat} {A W : Nat → Nat} (hM40 : 40 ≤ M) (hM160 : M < 160) (hG : GI S) (hC : CoI S M) (hN : NuI S M) (hM : MaI S M) (hU : CuI S M) (ht : t < cN S) (htr : t ∉ rcL S) (hk : ∀ u, some u ∉ kids S t) (hn : ∀ u, some t ∉ kids S u) (h42 : hB S 42 t = false) (h31 : hB S 31 t = false) (h18 : hB S 18 t = false)
    (h0 : hv S 12 0 t) (hr : r < 6) (q : Q4 S A W) (hB : ∀ s, W s ≤ 1200000000) :
    ∃ T W', mkN (nI r) (nI t) S = some (nI t, T) ∧ INV T M ∧ cN T = cN S ∧ P4 T A W' ∧ ∀ s, W s ≤ W' s ∧ W' s ≤ W s + 2020 := by
  unfold mkN
  by_cases h6 : S 18 5 = 0
  · obtain ⟨U, e, F, hI, hh, w, k1, k2, k3⟩ := s_nuPlace hG hN hM40 (by omega) h6 q.2.1.1 ht htr h18
    have g := geq_Nu F
    have hGU : GI U := hG.eq g (fun j => F _ _ (by unfold fNu; omega))
    have q2 : Q4 U A (upW W 1 w) := by
      obtain ⟨a, b, c, d⟩ := q
      exact ⟨a.fr (F _ _ (by unfold fNu; omega)) (F _ _ (by unfold fNu; omega)) (F _ _ (by unfold fNu; omega)), b.up k1 k2 (F _ _ (by unfold fNu; omega)) (F _ _ (by unfold fNu; omega)),
        c.fr (F _ _ (by unfold fNu; omega)) (F _ _ (by unfold fNu; omega)) (F _ _ (by unfold fNu; omega)), d.fr (F _ _ (by unfold fNu; omega)) (F _ _ (by unfold fNu; omega)) (F _ _ (by unfold fNu; omega))⟩
    have hb : ∀ s, W s ≤ upW W 1 w s ∧ upW W 1 w s ≤ W s + 640 ∧ (s ≠ 1 → upW W 1 w s = W s) := fun s => by
      unfold upW
      by_cases z : s = 1
      · rw [if_pos z, z]; omega
      · rw [if_neg z]; omega
    obtain ⟨T, W', e2, a1, a2, a3, a4⟩ := s_mkM hM160 hGU (co_fr hC hGU.1 g (fun a j x y z => F _ _ (by unfold fNu; omega))) hI (ma_fr hM g (fun a j x y z => F _ _ (by unfold fNu; omega))) (cu_fr hU g (fun a j x y => F _ _ (by unfold fNu; omega)))
      (by rw [g.c]; exact ht) (by rw [rcL_eq g]; exact htr) (by rw [kids_eq g]; exact hk) (by rw [kids_eq g]; exact hn) (by rw [hB1 (F _ _ (by unfold fNu; omega))]; exact h42) (by rw [hB1 (F _ _ (by unfold fNu; omega))]; exact h31) (h0.fr (F _ _ (by unfold fNu; omega)) (F _ _ (by unfold fNu; omega))) hh hr q2 (fun s => by have := hb s; have := hB s; omega)
    rw [if_pos h6, o1_e e]
    exact ⟨T, W', e2, a1, by rw [a2, g.c], a3, fun s => by have := hb s; have := a4 s; omega⟩
  · rw [if_neg h6]
    obtain ⟨T, W', e2, a1, a2, a3, a4⟩ := s_mkM hM160 hG hC hN hM hU ht htr hk hn h42 h31 h0 (fun z => absurd z h6) hr q (fun s => by have := hB s; omega)
    exact ⟨T, W', e2, a1, a2, a3, fun s => by have := a4 s; omega⟩
