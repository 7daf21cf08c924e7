/-! the law: what the stores have, counted -/
def HAS (S : St) (M k d : Nat) : Prop := PO S k M ∧ (S k (d + 5) ≠ 0 → ∀ t, t < 80 → hB S k t = false) ∧ (S k (d + 5) = 0 → RH S k)
theorem INV.has {S : St} {M : Nat} (h : INV S M) {s : Nat} (hs : s < 4) : HAS S M (kS s) (dS s) := by
  obtain ⟨hG, hC, hN, hM, hU⟩ := h
  have h : s = 0 ∨ s = 1 ∨ s = 2 ∨ s = 3 := by omega
  rcases h with rfl | rfl | rfl | rfl
  · exact ⟨(hC.po hG.1).1, hC.2.1, (hC.po hG.1).2.2⟩
  · exact ⟨(hN.po hG.1).1, hN.2.1, (hN.po hG.1).2.2⟩
  · exact ⟨hM.1.2.2.1, hM.1.2.2.2, fun z => (hM.2 z).1⟩
  · exact ⟨hU.1.2.2.1, hU.1.2.2.2, fun z => CL.rh hG.1 (hU.2 z).2.2⟩
def bq (S : St) (k d : Nat) : Int32 := if S k (d + 5) = 0 then 0 else 1
theorem s_S378 {S : St} {M k d t : Nat} (hG : GI S) (h : HAS S M k d) (hM : M < 1000) (ht : t < cN S) : m_law_S378 S (bq S k d) (if hB S k t = true then S (k + 2) t else -1) (zb (decide (t ∈ rcL S))) = some () := by
  have ht8 : t < 80 := Nat.lt_of_lt_of_le ht hG.1.2.1
  unfold m_law_S378
  by_cases hb : hB S k t = true
  · have hp := h.1.1 t ht hb
    rw [if_pos hb, hp.1, if_pos (nI_pos' (show pl S k t < 2147483648 by omega))]
    have h0 : S k (d + 5) = 0 := by
      by_cases z : S k (d + 5) = 0
      · exact z
      · rw [h.2.1 z t ht8] at hb; cases hb
    unfold bq
    rw [if_pos h0, if_pos rfl]
  · rw [if_neg hb, if_neg (by decide)]
    by_cases hr : t ∈ rcL S
    · rw [show decide (t ∈ rcL S) = true from decide_eq_true hr, if_neg (by decide)]
      have h0 : S k (d + 5) ≠ 0 := fun z => hb (h.2.2 z t hr)
      unfold bq
      rw [if_neg h0, if_neg (by decide)]
    · rw [show decide (t ∈ rcL S) = false from decide_eq_false hr, if_pos (by decide)]
theorem s_L343 {S : St} (hG : GI S) {M s : Nat} (hM : M < 1000) (hs : s < 4) (h : HAS S M (kS s) (dS s)) : ∀ (n i : Nat) (w : Nat → Int32), i ≤ cN S → cN S - i < n →
    (∀ x, w x ≠ 0 → ∃ t, t < i ∧ hB S (kS s) t = true ∧ pl S (kS s) t ≤ x ∧ x < pl S (kS s) t + wN S t) →
    m_law_L343 n S (nI M) (nI (cN S)) (nI s) (bq S (kS s) (dS s)) (nI (sm (hadW S (kS s)) i)) (nI (sm (had1 S (kS s)) i)) (nI (sm (hadU S (kS s)) i)) (nI i) w = some (nI (sm (hadW S (kS s)) (cN S)), nI (sm (had1 S (kS s)) (cN S)), nI (sm (hadU S (kS s)) (cN S))) := by
  intro n
  have hc := hG.1.2.1
  induction n with
  | zero => intro i w hi hn; omega
  | succ n ih =>
    intro i w hi hn hw
    show (if nI (cN S) ≤ nI i then _ else _) = _
    by_cases h1 : cN S ≤ i
    · have : i = cN S := by omega
      subst this
      rw [if_pos ((n_le (by omega) (by omega)).mpr h1)]
    · rw [if_neg ((not_congr (n_le (by omega) (by omega))).mpr h1), o1_e (s_at hG.1 hs (by omega)), o1_e (s_S360 hG (by omega)), o1_e (s_S378 hG h hM (by omega))]
      by_cases hb : hB S (kS s) i = true
      · have hp := h.1.1 i (by omega) hb
        rw [if_pos hb, hp.1, if_pos (nI_pos' (show pl S (kS s) i < 2147483648 by omega)), o1_e (s_S414 S _ _)]
        obtain ⟨w2, e, k1, k2⟩ := s_L432 hG hM (show i < cN S by omega) hp.2 200 0 (sm (hadW S (kS s)) i) w (Nat.zero_le _) (by have := wN_le hG.1 (show i < cN S by omega); omega) (fun x h1 h2 => by
          by_cases hx : w x = 0
          · exact hx
          · obtain ⟨t, q1, q2, q3, q4⟩ := hw x hx
            have := h.1.2 t i (by omega) (by omega) (by omega) q2 hb
            omega)
        rw [show (0 : Int32) = nI 0 from rfl, ob_e e]
        have e1 : sm (hadW S (kS s)) (i + 1) = sm (hadW S (kS s)) i + (wN S i - 0) := by
          rw [sm_s]; unfold hadW; rw [if_pos hb]; rfl
        have e2 : sm (had1 S (kS s)) (i + 1) = sm (had1 S (kS s)) i + 1 := by
          rw [sm_s]; unfold had1; rw [if_pos hb]
        have e3 : sm (hadU S (kS s)) (i + 1) = sm (hadU S (kS s)) i + if decide (i ∈ rcL S) = true then 0 else 1 := by
          rw [sm_s]
          congr 1
          unfold hadU
          by_cases hr : i ∈ rcL S
          · rw [if_neg (fun z => z.2 hr), if_pos (decide_eq_true hr)]
          · rw [if_pos ⟨hb, hr⟩, if_neg (by rw [decide_eq_true_iff]; exact hr)]
        rw [← e1, nI_1 (sm (had1 S (kS s)) i), ← e2, ← e3, nI_1 i]
        refine ih (i + 1) w2 (by omega) (by omega) (fun x hx => ?_)
        by_cases hq : x < pl S (kS s) i + 0 ∨ pl S (kS s) i + wN S i ≤ x
        · rw [k1 x hq] at hx
          obtain ⟨t, q1, q2⟩ := hw x hx
          exact ⟨t, by omega, q2⟩
        · exact ⟨i, by omega, hb, by omega, by omega⟩
      · rw [if_neg hb, if_neg (by decide)]
        have e1 : sm (hadW S (kS s)) (i + 1) = sm (hadW S (kS s)) i := by
          rw [sm_s]; unfold hadW; rw [if_neg hb]; rfl
        have e2 : sm (had1 S (kS s)) (i + 1) = sm (had1 S (kS s)) i := by
          rw [sm_s]; unfold had1; rw [if_neg hb]; rfl
        have e3 : sm (hadU S (kS s)) (i + 1) = sm (hadU S (kS s)) i := by
          rw [sm_s]; unfold hadU; rw [if_neg (fun z => hb z.1)]; rfl
        rw [← e1, ← e2, ← e3, nI_1 i]
        refine ih (i + 1) w (by omega) (by omega) (fun x hx => ?_)
        obtain ⟨t, q1, q2⟩ := hw x hx
        exact ⟨t, by omega, q2⟩
theorem s_S490 {S : St} (hG : GI S) {s A W P : Nat} (hs : s < 4) (hP : PS S (kS s) (dS s) A W) (v5 : Int32) (w : Nat → Int32) (hw : w s = nI P) (hPW : P ≤ W) (hWb : W < 2147483648) (hor : A = P ∨ m_Law_below S (v5 >>> ((6 : Int32) &&& 31)) 6 = some 0) :
    m_law_S490 S v5 (nI s) (nI (sm (hadW S (kS s)) (cN S))) (nI (sm (had1 S (kS s)) (cN S))) (nI (sm (hadU S (kS s)) (cN S))) w = some S := by
  obtain ⟨p1, p2, l, p3, p4, p5⟩ := hP
  have hq : qin (nI s) 4 := n_in hs (by omega)
  have t3 := s_told3 hG hs
  have t4 := s_told4 hG hs
  rw [p1] at t3
  rw [p3] at t4
  unfold m_law_S490
  rw [ob_e (s_told0 hG hs), if_pos rfl, ob_e (s_told1 hG hs), if_pos rfl, ob_e (s_told2 hG hs), if_pos rfl, ob_e t3, oi_t hq]
  simp only [n_cl (show s < 2147483648 by omega), hw]
  rw [if_neg ((not_congr (n_lt (by omega) (by omega))).mpr (by omega)), ob_e t4, ob_e t3, oi_t hq, pk_sub hPW]
  by_cases hl : W - P ≤ l
  · rw [if_pos ((n_le (by omega) (by omega)).mpr hl), ob_e t4, ob_e t3, if_pos ((n_le (by omega) (by omega)).mpr p4)]
  · rw [if_neg ((not_congr (n_le (by omega) (by omega))).mpr hl), o1_e (hor.resolve_left (by omega)), if_neg (by decide), ob_e t4, ob_e t3, if_pos ((n_le (by omega) (by omega)).mpr p4)]
