theorem s_mkC {S : St} {M t r : Nat} {A W : Nat → Nat} (hM40 : 40 ≤ M) (hM160 : M < 160) (hG : GI S) (hC : CoI S M) (hN : NuI S M) (hM : MaI S M) (hU : CuI S M) (ht : t < cN S) (htr : t ∉ rcL S) (hk : ∀ u, some u ∉ kids S t) (hn : ∀ u, some t ∉ kids S u) (h42 : hB S 42 t = false) (h31 : hB S 31 t = false) (h18 : hB S 18 t = false) (h12 : hB S 12 t = false)
    (hr : r < 6) (q : Q4 S A W) (hB : ∀ s, W s ≤ 1100000000) :
    ∃ T W', mkC (nI r) (nI t) S = some (nI t, T) ∧ INV T M ∧ cN T = cN S ∧ P4 T A W' ∧ ∀ s, W s ≤ W' s ∧ W' s ≤ W s + 2340 := by
  unfold mkC
  by_cases h6 : S 12 5 = 0
  · obtain ⟨U, e, F, hI, hh, w, k1, k2, k3⟩ := s_coPlace hG hC hM40 (by omega) h6 q.1.1 ht htr h12
    have g := geq_Co F
    have hGU : GI U := hG.eq g (fun j => F _ _ (by unfold fCo; omega))
    have q2 : Q4 U A (upW W 0 w) := by
      obtain ⟨a, b, c, d⟩ := q
      exact ⟨a.up k1 k2 (F _ _ (by unfold fCo; omega)) (F _ _ (by unfold fCo; omega)), b.fr (F _ _ (by unfold fCo; omega)) (F _ _ (by unfold fCo; omega)) (F _ _ (by unfold fCo; omega)),
        c.fr (F _ _ (by unfold fCo; omega)) (F _ _ (by unfold fCo; omega)) (F _ _ (by unfold fCo; omega)), d.fr (F _ _ (by unfold fCo; omega)) (F _ _ (by unfold fCo; omega)) (F _ _ (by unfold fCo; omega))⟩
    have hb : ∀ s, W s ≤ upW W 0 w s ∧ upW W 0 w s ≤ W s + 320 := fun s => by
      unfold upW
      by_cases z : s = 0
      · rw [if_pos z, z]; omega
      · rw [if_neg z]; omega
    obtain ⟨T, W', e2, a1, a2, a3, a4⟩ := s_mkN hM40 hM160 hGU hI (nu_fr hN hGU.1 g (fun a j x y z => F _ _ (by unfold fCo; omega))) (ma_fr hM g (fun a j x y z => F _ _ (by unfold fCo; omega))) (cu_fr hU g (fun a j x y => F _ _ (by unfold fCo; omega)))
      (by rw [g.c]; exact ht) (by rw [rcL_eq g]; exact htr) (by rw [kids_eq g]; exact hk) (by rw [kids_eq g]; exact hn) (by rw [hB1 (F _ _ (by unfold fCo; omega))]; exact h42) (by rw [hB1 (F _ _ (by unfold fCo; omega))]; exact h31) (by rw [hB1 (F _ _ (by unfold fCo; omega))]; exact h18) hh hr q2 (fun s => by have := hb s; have := hB s; omega)
    rw [if_pos h6, o1_e e]
    exact ⟨T, W', e2, a1, by rw [a2, g.c], a3, fun s => by have := hb s; have := a4 s; omega⟩
  · rw [if_neg h6]
    obtain ⟨T, W', e2, a1, a2, a3, a4⟩ := s_mkN hM40 hM160 hG hC hN hM hU ht htr hk hn h42 h31 h18 (fun z => absurd z h6) hr q (fun s => by have := hB s; omega)
    exact ⟨T, W', e2, a1, a2, a3, fun s => by have := a4 s; omega⟩
