/-! the digest: things -/
theorem we_x {S T : St} (lo hi : Nat) (hG : GI S) (F : Fr scr S T) : WE lo hi S T := ⟨x_gi F hG, x_geq F, fun a j _ _ h => F a j h⟩
theorem DG.wd {S : St} {f : St → Option (Int32 × St)} {v : Int32} (h : ∀ T, Fr scr S T → ∃ T', f T = some (v, T') ∧ Fr scr T T') : DG S f := ⟨v, fun T F => by
  obtain ⟨T', e, F'⟩ := h T F
  exact ⟨T', e, F.tr F'⟩⟩
theorem dg_go {S : St} {M s : Nat} {A W : Nat → Nat} (hI : INV S M) (hM : M < 160) (hP : P4 S A W) (hW : ∀ s, W s ≤ 1000000000) (hs : s < 4) : DG S (fun T => m_Te_wouldGo T (nI s)) := by
  obtain ⟨hG, hC, hN, hMa, hU⟩ := hI
  obtain ⟨p0, p1, p2, p3⟩ := hP
  have h : s = 0 ∨ s = 1 ∨ s = 2 ∨ s = 3 := by omega
  rcases h with rfl | rfl | rfl | rfl
  · obtain ⟨go, wk, h⟩ := w_co hC hM p0 (hW 0)
    exact DG.of (nI go) (fun T F => (h T (we_x _ _ hG F)).1)
  · obtain ⟨go, wk, h⟩ := w_nu hN hM p1 (hW 1)
    exact DG.of (nI go) (fun T F => (h T (we_x _ _ hG F)).1)
  · obtain ⟨go, wk, _, h⟩ := w_ma hG hMa hM p2 (hW 2)
    exact DG.wd (v := nI go) (fun T F => (h T (we_x _ _ hG F)).1)
  · obtain ⟨go, wk, h⟩ := w_cu hG hU p3 (hW 3)
    exact DG.wd (v := nI go) (fun T F => (h T (we_x _ _ hG F)).1)
theorem dg_wk {S : St} {M s : Nat} {A W : Nat → Nat} (hI : INV S M) (hM : M < 160) (hP : P4 S A W) (hW : ∀ s, W s ≤ 1000000000) (hs : s < 4) : DG S (fun T => m_Te_wouldWork T (nI s)) := by
  obtain ⟨hG, hC, hN, hMa, hU⟩ := hI
  obtain ⟨p0, p1, p2, p3⟩ := hP
  have h : s = 0 ∨ s = 1 ∨ s = 2 ∨ s = 3 := by omega
  rcases h with rfl | rfl | rfl | rfl
  · obtain ⟨go, wk, h⟩ := w_co hC hM p0 (hW 0)
    exact DG.of (nI wk) (fun T F => (h T (we_x _ _ hG F)).2.1)
  · obtain ⟨go, wk, h⟩ := w_nu hN hM p1 (hW 1)
    exact DG.of (nI wk) (fun T F => (h T (we_x _ _ hG F)).2.1)
  · obtain ⟨go, wk, _, h⟩ := w_ma hG hMa hM p2 (hW 2)
    exact DG.wd (v := nI wk) (fun T F => (h T (we_x _ _ hG F)).2.1)
  · obtain ⟨go, wk, h⟩ := w_cu hG hU p3 (hW 3)
    exact DG.wd (v := nI wk) (fun T F => (h T (we_x _ _ hG F)).2.1)
theorem dg_lose {S : St} (hG : GI S) {r : Nat} (hr : r < 6) : DG S (fun T => m_Te_wouldLose T (nI r)) := by
  refine DG.wd (v := S 6 2 - nI (trL S (nI r)).length) (fun T F => ?_)
  obtain ⟨T', e, F'⟩ := s_countLost (x_gi F hG).1 (nI r)
  rw [x_c F (by omega) 2, trL_eq (x_geq F)] at e
  refine ⟨T', ?_, F'.mono (fun a j q => Or.inl q)⟩
  unfold m_Te_wouldLose
  rw [o1_e (s_checkRoot T hr), ob_e e]
theorem PA.of {α : Type} {S : St} {f : St → Option α} (r : α) (h : ∀ T, Fr scr S T → f T = some r) : PA S f := ⟨r, h⟩
theorem pa_more {S : St} (w : Int32) (hw : w = 0 ∨ w = 1 ∨ w = 2 ∨ w = 3) : PA S (fun T => m_Te_more T w) := by
  rcases hw with rfl | rfl | rfl | rfl
  · exact PA.of (S 18 9) (fun T F => by
      unfold m_Te_more
      rw [o1_e (show m_Te_checkWhat T 0 3 = some () from rfl), if_pos rfl, x_c F (by omega)])
  · exact PA.of (S 18 10) (fun T F => by
      unfold m_Te_more
      rw [o1_e (show m_Te_checkWhat T 1 3 = some () from rfl), if_neg (by decide), if_pos rfl, x_c F (by omega)])
  · exact PA.of (if S 31 10 = 0 then 0 else 1) (fun T F => by
      unfold m_Te_more
      rw [o1_e (show m_Te_checkWhat T 2 3 = some () from rfl), if_neg (by decide), if_neg (by decide), if_pos rfl, x_c F (by omega), o1_e (s_asN T _)])
  · exact PA.of (S 42 10) (fun T F => by
      unfold m_Te_more
      rw [o1_e (show m_Te_checkWhat T 3 3 = some () from rfl), if_neg (by decide), if_neg (by decide), if_neg (by decide), x_c F (by omega)])
theorem x_lt {S T : St} (F : Fr scr S T) {t : Nat} (ht : t < cN S) : t < cN T := by rw [(x_geq F).c]; exact ht
theorem pa_of0 {S : St} (hG : GI S) {t : Nat} (ht : t < cN S) : PA S (fun T => m_Te_ofThing T (nI t) 0) := PA.of (nI (fN S t)) (fun T F => by rw [s_of0 (x_gi F hG).1 (x_lt F ht), (x_geq F).f])
theorem pa_of1 {S : St} (hG : GI S) {t : Nat} (ht : t < cN S) : PA S (fun T => m_Te_ofThing T (nI t) 1) := PA.of (zb (decide (t ∈ rcL S))) (fun T F => by rw [s_of1 (x_gi F hG) (x_lt F ht), rcL_eq (x_geq F)])
theorem pa_of2 {S : St} (hG : GI S) {t : Nat} (ht : t < cN S) : PA S (fun T => m_Te_ofThing T (nI t) 2) := PA.of (S 5 t) (fun T F => by rw [s_of2 (x_gi F hG).1 (x_lt F ht), x_c F (by omega)])
theorem pa_pl {S : St} (hG : GI S) {s d : Nat} (hs : s < 4) {t : Nat} (ht : t < cN S) : PA S (fun T => m_St_placeOf (kS s) d T (nI t)) := by
  have h80 := hG.1.2.1
  refine PA.of (if hB S (kS s) t = true then S (kS s + 2) t else -1) (fun T F => ?_)
  rw [s_placeOf (kS s) d T (show t < 80 by omega), x_hB F hs]
  have h : s = 0 ∨ s = 1 ∨ s = 2 ∨ s = 3 := by omega
  have : T (kS s + 2) t = S (kS s + 2) t := by
    rcases h with rfl | rfl | rfl | rfl <;> exact x_c F (by decide) t
  rw [this]
theorem x_nmQ {S T : St} (F : Fr scr S T) (o : Option Nat) (i : Nat) : nmQ T o i = nmQ S o i := by
  cases o with
  | none => rfl
  | some t => rw [nmQ_s, nmQ_s, (x_geq F).c, (x_geq F).f, (x_geq F).n]
theorem pa_L35 {S : St} (hG : GI S) {t : Nat} (ht : t < cN S) : ∀ (n i : Nat) (a : Int64), i ≤ 3 → 3 - i < n → PA S (fun T => m_Te_mixedThing_L35 n T (nI t) a (nI i)) := by
  intro n
  have h80 := hG.1.2.1
  have hf3 := (hG.1.2.2.1 t ht).2.1
  induction n with
  | zero => intro i a hi hn; omega
  | succ n ih =>
    intro i a hi hn
    have key : ∀ T, Fr scr S T → m_Gr_fieldsOf T (nI t) = some (nI (fN S t)) := fun T F => by
      rw [← oI_s t, s_fieldsOf (x_gi F hG).1 (some t) (b_s (by omega)), fO_s, if_pos (x_lt F ht), (x_geq F).f]
    by_cases h : fN S t ≤ i
    · refine ⟨a, fun T F => ?_⟩
      show (o1 (m_Gr_fieldsOf T (nI t)) fun r1 => _) = _
      rw [o1_e (key T F), if_pos ((n_le (by omega) (by omega)).mpr h)]
    · obtain ⟨d, hd⟩ := ih (i + 1) ((a * (31 : Int64)) + (oI (nmQ S (some t) i)).toInt64) (by omega) (by omega)
      refine ⟨d, fun T F => ?_⟩
      show (o1 (m_Gr_fieldsOf T (nI t)) fun r1 => _) = _
      rw [o1_e (key T F), if_neg ((not_congr (n_le (by omega) (by omega))).mpr h), ← oI_s t, o1_e (s_nameOf (x_gi F hG).1 (some t) (b_s (by omega)) i (by omega)), x_nmQ F, oI_s t, o1_e (show m_Te_mixed T a (oI (nmQ S (some t) i)) = some ((a * (31 : Int64)) + (oI (nmQ S (some t) i)).toInt64) from rfl), nI_1 i]
      exact hd T F
theorem x_row {S T : St} (F : Fr scr S T) {k : Nat} {L : List Nat} (h : RowIs S k L) (hk : k = 21 ∨ k = 24) : RowIs T k L := h.fr F (fun a j y z => by have := scr_lo z; unfold rowP at y; omega)
theorem x_gB {S T : St} (F : Fr scr S T) (t : Nat) : gB T t = gB S t := by unfold gB; rw [x_c F (by omega)]
theorem pa_k0 {S : St} {M : Nat} (hI : INV S M) {t : Nat} (ht : t < cN S) : PA S (fun T => m_Te_kept T (nI t) 0) := by
  have h80 := hI.1.1.2.1
  have hd : ∀ T, Fr scr S T → m_Te_kept T (nI t) 0 = o1 (m_Nur_ageOf T (nI t)) fun r1 => some r1 := fun T F => by
    unfold m_Te_kept
    rw [o1_e (s_checkThing (x_gi F hI.1).1 (x_lt F ht)), o1_e (show m_Te_checkWhat T 0 4 = some () from rfl), if_pos rfl]
  by_cases hb : hB S 18 t = true
  · have h5 : S 18 5 = 0 := by
      by_cases z : S 18 5 = 0
      · exact z
      · rw [hI.2.2.1.2.1 z t (by omega)] at hb; cases hb
    obtain ⟨Y, O, hQ, -⟩ := hI.2.2.1.2.2 h5
    refine ⟨if t ∈ Y then (if gB S t = true then 1 else 0) else 2, fun T F => ?_⟩
    show m_Te_kept T (nI t) 0 = _
    rw [hd T F]
    unfold m_Nur_ageOf
    rw [s_hasN (show t < 80 by omega), show hB T 18 t = true from (x_hB F (s := 1) (by omega) t).trans hb, o1_e rfl, if_neg (by decide), o1_e (s_holdsN (x_row F hQ.1 (Or.inl rfl)) (show t < 80 by omega))]
    by_cases hy : t ∈ Y
    · rw [decide_eq_true hy, if_neg (by decide), o1_e (s_isGrown (x_gi F hI.1).1 (x_lt F ht)), x_gB F, if_pos hy]
      cases gB S t
      · rw [if_pos (by decide), if_neg (by decide)]; rfl
      · rw [if_neg (by decide), if_pos rfl]; rfl
    · rw [decide_eq_false hy, if_pos (by decide), if_neg hy]; rfl
  · refine ⟨-1, fun T F => ?_⟩
    show m_Te_kept T (nI t) 0 = _
    rw [hd T F]
    unfold m_Nur_ageOf
    rw [s_hasN (show t < 80 by omega), show hB T 18 t = false by rw [show hB T 18 t = hB S 18 t from x_hB F (s := 1) (by omega) t]; simpa using hb, o1_e rfl]; rfl
