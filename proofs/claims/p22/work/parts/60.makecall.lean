theorem s_makeCall {S : St} {M f r : Nat} {A W : Nat → Nat} (hM40 : 40 ≤ M) (hM160 : M < 160) (hI : INV S M) (hP : P4 S A W) (hf : f ≤ 3) (hr : r < 6) (hc : cN S < 80) (hWb : ∀ s, W s ≤ 1000000000) :
    ∃ T W', m_Te_make S (nI f) (nI r) = some (nI (cN S), T) ∧ INV T M ∧ cN T = cN S + 1 ∧ P4 T W W' ∧ ∀ s, W s ≤ W' s ∧ W' s ≤ W s + 2340 := by
  obtain ⟨S1, e1, F1, q1⟩ := s_opens hP
  have g1 : GEq S S1 := GEq.of F1 (fun a j q => by unfold pzc at q; omega)
  obtain ⟨hG, hC, hN, hM, hU⟩ := hI.pz F1
  have c1 : cN S1 = cN S := g1.c
  have h80 := hG.1.2.1
  obtain ⟨U, e2, F2, hGU, zc, zw, zr, zk, zrc, zkk⟩ := s_addThing hG hf (by omega)
  have F' : ∀ a j, 8 < a → U a j = S1 a j := fun a j h => F2 _ _ (by omega)
  have bb : ∀ k t, 12 ≤ k → hB U k t = hB S1 k t := fun k t hk => hB_eq (fun j => F' _ _ (by omega)) t
  have hCU : CoI U M := hC.tr hGU.1 (by omega) zw (fun j => F' _ _ (by omega)) (fun j => F' _ _ (by omega)) (F' _ _ (by omega)) (F' _ _ (by omega)) (F' _ _ (by omega)) (F' _ _ (by omega)) (fun _ t ht => Or.inl ((zrc t).mp ht))
  have hNU : NuI U M := hN.tr hGU.1 (by omega) zw (fun a j h1 h2 => F' _ _ (by omega)) (fun j _ _ _ => F' _ _ (by omega)) (fun _ t ht => Or.inl ((zrc t).mp ht))
  have hMU : MaI U M := ⟨hM.1.chg hGU.1 (by omega) zw (fun a j h => F' _ _ (by omega)), fun q => by
    have q' : S1 31 6 = 0 := (F' 31 6 (by omega)) ▸ q
    have hx : MaX U nE1 nE2 := (hM.2 q').chg hM.1.2.1 hGU.1 (by omega) (fun a j h => F' _ _ (by omega)) (fun t ht => by rw [bb 31 t (by omega)]; exact (hM.2 q').1 t ((zrc t).mp ht)) (fun r' t hr' h1 => Or.inl ⟨r', hr', by rw [← zr]; exact h1⟩) (fun t u _ hu => Or.inl ((zk t u).mp hu))
    exact hx⟩
  have no : ∀ k, 12 ≤ k → HC S1 k → hB U k (cN S1) = false := fun k hk h => Bool.eq_false_iff.mpr (fun z => by
    rw [bb k _ hk] at z
    exact absurd (h (cN S1) (by omega) z) (Nat.lt_irrefl _))
  have hCuU : CuI U M := ⟨hU.1.chg hGU.1 (by omega) zw (fun a j h => F' _ _ (by omega)), fun q => by
    have q' : S1 42 6 = 0 := (F' 42 6 (by omega)) ▸ q
    obtain ⟨hE, hP2, hCL⟩ := hU.2 q'
    have lt : ∀ t, t < cN U → hB U 42 t = true → t < cN S1 := fun t ht hh => hCL.2.2 t (by omega) (bb 42 t (by omega) ▸ hh)
    have hnf : ∀ t, nf U t = nf S1 t := fun t => by
      unfold nf
      rw [zc, sm_s]
      have h0 : nfF U t (cN S1) = 0 := by unfold nfF; rw [no 42 (by omega) hCL.2.2]; exact if_neg (by decide)
      rw [h0, Nat.add_zero]
      refine sm_congr (fun u hu => ?_)
      unfold nfF kc
      rw [bb 42 u (by omega), zkk u hu]
    have hnr : ∀ t, nr U t = nr S1 t := fun t => by
      have : rtsF U (-1) 0 = rtsF S1 (-1) 0 := by unfold rtsF; rw [show rtO U = rtO S1 from funext zr]
      unfold nr; rw [this]
    refine ⟨fun t ht hh => ?_, fun t ht hh => ?_, fun u t hu hh hk => ?_, fun r' t hr' h1 => ?_, fun t ht hh => ?_⟩
    · rw [hnf, hnr, F' 46 t (by omega)]; exact hE t (lt t ht hh) (bb 42 t (by omega) ▸ hh)
    · rw [hnf, hnr]; exact hP2 t (lt t ht hh) (bb 42 t (by omega) ▸ hh)
    · rw [bb 42 t (by omega)]; exact hCL.1 u t (lt u hu hh) (bb 42 u (by omega) ▸ hh) ((zk u t).mp hk)
    · rw [bb 42 t (by omega)]; rw [zr] at h1; exact hCL.2.1 r' t hr' h1
    · have := hCL.2.2 t ht (bb 42 t (by omega) ▸ hh); omega⟩
  have q2 : Q4 U W W := by
    obtain ⟨a, b, c, d⟩ := q1
    exact ⟨a.fr (F' _ _ (by omega)) (F' _ _ (by omega)) (F' _ _ (by omega)), b.fr (F' _ _ (by omega)) (F' _ _ (by omega)) (F' _ _ (by omega)), c.fr (F' _ _ (by omega)) (F' _ _ (by omega)) (F' _ _ (by omega)), d.fr (F' _ _ (by omega)) (F' _ _ (by omega)) (F' _ _ (by omega))⟩
  have hpC := (hC.po hG.1).2.1
  have hpN := (hN.po hG.1).2.1
  obtain ⟨T, W', e3, a1, a2, a3, a4⟩ := s_mkC (t := cN S1) hM40 hM160 hGU hCU hNU hMU hCuU (by omega) (fun z => absurd (rc_lt hG.1 _ ((zrc _).mp z)) (Nat.lt_irrefl _)) (fun u z => absurd (mem_kids.mp ((zk _ _).mp z)).1 (Nat.lt_irrefl _)) (fun u z => absurd (kids_lt hG.1 ((zk _ _).mp z)) (Nat.lt_irrefl _))
    (no 42 (by omega) hU.1.2.1) (no 31 (by omega) hM.1.2.1) (no 18 (by omega) hpN) (no 12 (by omega) hpC) hr q2 (fun s => by have := hWb s; omega)
  rw [make_e, if_neg (n_nneg (by omega)), if_pos (by rw [show (3 : Int32) = nI 3 from rfl, n_le (by omega) (by omega)]; exact hf), o1_e (s_checkRoot S hr), hI.1.1.1, if_pos (by rw [show (80 : Int32) = nI 80 from rfl, n_lt (by omega) (by omega)]; exact hc), o1_e e1, ob_e e2, e3]
  exact ⟨T, W', by rw [c1], a1, by rw [a2, zc, c1], a3, a4⟩
