theorem Q4.rt {S T : St} {W : Nat → Nat} {w' : Nat} (q1 : Q4 S W W) (F2 : Fr fRt S T) (k1 : T 42 3 = nI w') (k2 : W 3 ≤ w') : Q4 T W (upW W 3 w') := by
  obtain ⟨a, b, c, d⟩ := q1
  exact ⟨a.fr (F2 _ _ (by unfold fRt fG fL rowP; omega)) (F2 _ _ (by unfold fRt fG fL rowP; omega)) (F2 _ _ (by unfold fRt fG fL rowP; omega)), b.fr (F2 _ _ (by unfold fRt fG fL rowP; omega)) (F2 _ _ (by unfold fRt fG fL rowP; omega)) (F2 _ _ (by unfold fRt fG fL rowP; omega)),
      c.fr (F2 _ _ (by unfold fRt fG fL rowP; omega)) (F2 _ _ (by unfold fRt fG fL rowP; omega)) (F2 _ _ (by unfold fRt fG fL rowP; omega)), d.up k1 k2 (F2 _ _ (by unfold fRt fG fL rowP; omega)) (F2 _ _ (by unfold fRt fG fL rowP; omega))⟩
theorem s_named {T : St} (hG : GW T) {x i y : Nat} (hx : x < cN T) (hi : i < fN T x) (h : nmO T x i = some y) : m_Te_named T (nI x) (nI i) = some (nI y) := by
  have h80 := hG.2.1
  have hf3 := (hG.2.2.1 x hx).2.1
  unfold m_Te_named
  rw [o1_e (s_hasField hG hx hi), if_neg (by decide), ← oI_s x, o1_e (s_nameOf hG (some x) (b_s (by omega)) i (by omega)), nmQ_s, if_pos ⟨hx, hi⟩, h, oI_s]
theorem s_setCall {S : St} {M x i y : Nat} {A W : Nat → Nat} (hI : INV S M) (hP : P4 S A W) (hi : i < fN S x) (hxr : x ∈ rcL S) (hyr : y ∈ rcL S) (hB : ∀ s, W s ≤ 1000000000) :
    ∃ v T W', m_Te_set S (nI x) (nI i) (nI y) = some (v, T) ∧ INV T M ∧ cN T = cN S ∧ P4 T W W' ∧ (∀ s, W s ≤ W' s ∧ W' s ≤ W s + 2000) ∧ m_Te_named T (nI x) (nI i) = some (nI y) := by
  have hG := hI.1
  have h80 := hG.1.2.1
  have hx := rc_lt hG.1 x hxr
  have hy := rc_lt hG.1 y hyr
  have hf3 := (hG.1.2.2.1 x hx).2.1
  obtain ⟨S1, e1, F1, q1⟩ := s_opens hP
  have hI1 := hI.pz F1
  have g1 : GEq S S1 := GEq.of F1 (fun a j q => by unfold pzc at q; omega)
  have hx1 : x < cN S1 := by rw [g1.c]; exact hx
  have hi1 : i < fN S1 x := by rw [g1.f]; exact hi
  have enm : m_Gr_nameOf S1 (nI x) (nI i) = some (oI (nmO S1 x i)) := by
    rw [← oI_s x, s_nameOf hI1.1.1 (some x) (b_s (by omega)) i (by omega), nmQ_s, if_pos ⟨hx1, hi1⟩]
  unfold m_Te_set
  rw [o1_e (s_isReached hG (show x < 80 by omega)), decide_eq_true hxr, if_neg (by decide), o1_e (s_hasField hG.1 hx hi), if_neg (by decide),
    o1_e (show m_Te_checkNameable S (nI y) = some () by unfold m_Te_checkNameable; rw [if_neg (m1_ne (by omega)), o1_e (s_isReached hG (show y < 80 by omega)), decide_eq_true hyr, if_neg (by decide)]), o1_e e1, o1_e enm]
  have hnb : ∀ t, nmO S1 x i = some t → t < 2147483648 := fun t h => by
    have := ((hI1.1.1.2.2.1 x hx1).2.2 i (by omega)).2 t h
    have := hI1.1.1.2.1
    omega
  by_cases hbo : nmO S1 x i = some y
  · rw [if_pos (by rw [hbo, oI_s])]
    obtain ⟨T3, e3, F3, q3⟩ := s_closes q1 (fun s => by have := hB s; omega)
    have g3 : GEq S1 T3 := GEq.of F3 (fun a j q => by unfold pzc at q; omega)
    have hI3 := hI1.pz F3
    rw [o1_e e3]
    exact ⟨_, T3, W, rfl, hI3, by rw [g3.c, g1.c], q3, fun s => ⟨Nat.le_refl _, by omega⟩, s_named hI3.1.1 (by rw [g3.c]; exact hx1) (by rw [g3.f]; exact hi1) (by rw [g3.n]; exact hbo)⟩
  · rw [if_neg (fun z => hbo ((oI_inj hnb (fun t h => by cases h; omega)).mp (z.trans (oI_s y).symm)))]
    obtain ⟨U, T, e2, e4, F2, hI2, c2, ⟨w', k1, k2, k3⟩, n2, f2⟩ := s_teField hI1 hx1 hi1 (by rw [rcL_eq g1]; exact hxr) (by rw [rcL_eq g1]; exact hyr) q1.2.2.2.1 hbo
    have hb : ∀ s, W s ≤ upW W 3 w' s ∧ upW W 3 w' s ≤ W s + 2000 := fun s => by
      unfold upW
      by_cases z : s = 3
      · rw [if_pos z, z]; omega
      · rw [if_neg z]; omega
    obtain ⟨T3, e3, F3, q3⟩ := s_closes (q1.rt F2 k1 k2) (fun s => by have := hb s; have := hB s; omega)
    have g3 : GEq T T3 := GEq.of F3 (fun a j q => by unfold pzc at q; omega)
    have hI3 := hI2.pz F3
    rw [o1_e e2, o1_e e4, o1_e e3]
    exact ⟨_, T3, _, rfl, hI3, by rw [g3.c, c2, g1.c], q3, hb, s_named hI3.1.1 (by rw [g3.c, c2]; exact hx1) (by rw [g3.f, f2]; exact hi1) (by rw [g3.n]; exact n2)⟩
