/-! a new thing in all stores -/
theorem co_fr {S T : St} {M : Nat} (h : CoI S M) (hT : GW T) (g : GEq S T) (hc : ∀ a j, 11 < a → a < 18 → (a = 12 → j ≠ 2 ∧ j ≠ 3 ∧ j ≠ 6) → T a j = S a j) : CoI T M :=
  h.tr hT (by rw [g.c]; exact Nat.le_refl _) (fun t _ => by rw [wN_eq g]) (fun j => hc _ _ (by omega) (by omega) (by omega)) (fun j => hc _ _ (by omega) (by omega) (by omega)) (hc _ _ (by omega) (by omega) (by omega)) (hc _ _ (by omega) (by omega) (by omega)) (hc _ _ (by omega) (by omega) (by omega)) (hc _ _ (by omega) (by omega) (by omega)) (fun _ t ht => Or.inl (by rw [rcL_eq g] at ht; exact ht))
theorem nu_fr {S T : St} {M : Nat} (h : NuI S M) (hT : GW T) (g : GEq S T) (hc : ∀ a j, 17 < a → a < 31 → (a = 18 → j ≠ 2 ∧ j ≠ 3 ∧ j ≠ 6) → T a j = S a j) : NuI T M :=
  h.tr hT (by rw [g.c]; exact Nat.le_refl _) (fun t _ => by rw [wN_eq g]) (fun a j h1 h2 => hc _ _ (by omega) (by omega) (by omega)) (fun j h1 h2 h3 => hc _ _ (by omega) (by omega) (by omega)) (fun _ t ht => Or.inl (by rw [rcL_eq g] at ht; exact ht))
theorem ma_fr {S T : St} {M : Nat} (h : MaI S M) (g : GEq S T) (hc : ∀ a j, 30 < a → a < 42 → (a = 31 → j ≠ 3 ∧ j ≠ 4 ∧ j ≠ 7) → T a j = S a j) : MaI T M :=
  h.fr ⟨g, fun j => hc _ _ (by omega) (by omega) (by omega), fun j => hc _ _ (by omega) (by omega) (by omega), fun j => hc _ _ (by omega) (by omega) (by omega), fun j => hc _ _ (by omega) (by omega) (by omega), hc _ _ (by omega) (by omega) (by omega), hc _ _ (by omega) (by omega) (by omega), hc _ _ (by omega) (by omega) (by omega)⟩
    (hc _ _ (by omega) (by omega) (by omega)) (hc _ _ (by omega) (by omega) (by omega)) (fun j => hc _ _ (by omega) (by omega) (by omega))
theorem cu_fr {S T : St} {M : Nat} (h : CuI S M) (g : GEq S T) (hc : ∀ a j, 41 < a → (a = 42 → j ≠ 3 ∧ j ≠ 4 ∧ j ≠ 7) → T a j = S a j) : CuI T M :=
  h.fr ⟨g, fun j => hc _ _ (by omega) (by omega), fun j => hc _ _ (by omega) (by omega), fun j => hc _ _ (by omega) (by omega)⟩ (hc _ _ (by omega) (by omega)) (hc _ _ (by omega) (by omega)) (fun j => hc _ _ (by omega) (by omega))
def mkF (a2 r1 : Int32) (S : St) : Option (Int32 × St) := ob (m_Te_nameByRoot S a2 r1) fun _ X => o1 (m_Te_closePauses X) fun Y => some (r1, Y)
def mkU (a2 r1 : Int32) (S : St) : Option (Int32 × St) := if (S 42 6) = (0 : Int32) then o1 (m_Cou_placeNew S r1) fun X => mkF a2 r1 X else mkF a2 r1 S
def mkM (a2 r1 : Int32) (S : St) : Option (Int32 × St) := if (S 31 6) = (0 : Int32) then o1 (m_Mar_placeNew S r1) fun X => mkU a2 r1 X else mkU a2 r1 S
def mkN (a2 r1 : Int32) (S : St) : Option (Int32 × St) := if (S 18 5) = (0 : Int32) then o1 (m_Nur_placeNew S r1) fun X => mkM a2 r1 X else mkM a2 r1 S
def mkC (a2 r1 : Int32) (S : St) : Option (Int32 × St) := if (S 12 5) = (0 : Int32) then o1 (m_Cop_placeNew S r1) fun X => mkN a2 r1 X else mkN a2 r1 S
theorem make_e (S : St) (a1 a2 : Int32) : m_Te_make S a1 a2 = if a1 < (0 : Int32) then none else if a1 ≤ (3 : Int32) then o1 (m_Te_checkRoot S a2) fun _ => if (S 1 6) < (80 : Int32) then o1 (m_Te_openPauses S) fun S1 => ob (m_Gr_addThing S1 a1) fun r1 S2 => mkC a2 r1 S2 else none else none := rfl
def hv (S : St) (k d t : Nat) : Prop := S k (d + 5) = 0 → hB S k t = true
theorem s_mkF {S : St} {M t r : Nat} {A W : Nat → Nat} (hG : GI S) (hC : CoI S M) (hN : NuI S M) (hM : MaI S M) (hU : CuJ S M t) (ht : t < cN S) (htr : t ∉ rcL S) (hk : ∀ u, some u ∉ kids S t) (h0 : hv S 12 0 t) (h1 : hv S 18 0 t) (h2 : hv S 31 1 t) (hr : r < 6) (q : Q4 S A W) (hB : ∀ s, W s ≤ 1500000000) :
    ∃ T W', mkF (nI r) (nI t) S = some (nI t, T) ∧ INV T M ∧ cN T = cN S ∧ P4 T A W' ∧ ∀ s, W s ≤ W' s ∧ W' s ≤ W s + 300 := by
  obtain ⟨v, T, e2, F2, hI2, c2, w', k1, k2, k3⟩ := s_teRoot hG hC hN hM (some t) (fun u h => by cases h; exact ht) (Or.inr ⟨t, rfl, hU⟩) (fun u h => by cases h; exact ⟨htr, hk, h0, h1, h2⟩) hr q.2.2.2.1
  have hb : ∀ s, W s ≤ upW W 3 w' s ∧ upW W 3 w' s ≤ W s + 300 := fun s => by
    unfold upW
    by_cases z : s = 3
    · rw [if_pos z, z]; omega
    · rw [if_neg z]; omega
  have q2 : Q4 T A (upW W 3 w') := by
    obtain ⟨a, b, c, d⟩ := q
    exact ⟨a.fr (F2 _ _ (by unfold fRt fG fL rowP; omega)) (F2 _ _ (by unfold fRt fG fL rowP; omega)) (F2 _ _ (by unfold fRt fG fL rowP; omega)), b.fr (F2 _ _ (by unfold fRt fG fL rowP; omega)) (F2 _ _ (by unfold fRt fG fL rowP; omega)) (F2 _ _ (by unfold fRt fG fL rowP; omega)),
      c.fr (F2 _ _ (by unfold fRt fG fL rowP; omega)) (F2 _ _ (by unfold fRt fG fL rowP; omega)) (F2 _ _ (by unfold fRt fG fL rowP; omega)), d.up k1 k2 (F2 _ _ (by unfold fRt fG fL rowP; omega)) (F2 _ _ (by unfold fRt fG fL rowP; omega))⟩
  obtain ⟨T3, e3, F3, q3⟩ := s_closes q2 (fun s => by have := hb s; have := hB s; omega)
  have g3 : GEq T T3 := GEq.of F3 (fun a j q => by unfold pzc at q; omega)
  unfold mkF
  rw [← oI_s t, ob_e e2, o1_e e3]
  exact ⟨T3, _, rfl, hI2.pz F3, by rw [g3.c, c2], q3, hb⟩
