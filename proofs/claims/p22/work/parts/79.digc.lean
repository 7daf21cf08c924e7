/-! the digest, whole -/
theorem pa_rem {S : St} {Y : List Nat} (hG : GI S) (hY : RowIs S 21 Y) {t : Nat} (ht : t < cN S) : ∀ (n i : Nat), i ≤ 3 → 3 - i < n → PA S (fun T => m_Nur_isRemembered_L15 n T (nI t) (nI i)) := by
  intro n
  have h80 := hG.1.2.1
  have hf3 := (hG.1.2.2.1 t ht).2.1
  induction n with
  | zero => intro i hi hn; omega
  | succ n ih =>
    intro i hi hn
    have key : ∀ T, Fr scr S T → m_Gr_fieldsOf T (nI t) = some (nI (fN S t)) := fun T F => by
      rw [← oI_s t, s_fieldsOf (x_gi F hG).1 (some t) (b_s (by omega)), fO_s, if_pos (x_lt F ht), (x_geq F).f]
    by_cases h : fN S t ≤ i
    · refine ⟨0, fun T F => ?_⟩
      show (o1 (m_Gr_fieldsOf T (nI t)) fun r1 => _) = _
      rw [o1_e (key T F), if_pos ((n_le (by omega) (by omega)).mpr h)]
    · have hnm : ∀ T, Fr scr S T → m_Gr_nameOf T (nI t) (nI i) = some (oI (nmQ S (some t) i)) := fun T F => by
        rw [← oI_s t, s_nameOf (x_gi F hG).1 (some t) (b_s (by omega)) i (by omega), x_nmQ F]
      have hb : B80 (nmQ S (some t) i) := fun u hu => Nat.lt_of_lt_of_le (hG.1.b_nq (some t) i u hu) h80
      obtain ⟨b, hh⟩ : ∃ b : Bool, ∀ T, Fr scr S T → m_Row_holds 21 T (oI (nmQ S (some t) i)) = some (zb b) := ⟨_, fun T F => s_holds (x_row F hY (Or.inl rfl)) (nmQ S (some t) i) hb⟩
      cases b with
      | true =>
        refine ⟨1, fun T F => ?_⟩
        show (o1 (m_Gr_fieldsOf T (nI t)) fun r1 => _) = _
        rw [o1_e (key T F), if_neg ((not_congr (n_le (by omega) (by omega))).mpr h), o1_e (hnm T F), o1_e (hh T F), if_neg (by decide)]
      | false =>
        obtain ⟨d, hd⟩ := ih (i + 1) (by omega) (by omega)
        refine ⟨d, fun T F => ?_⟩
        show (o1 (m_Gr_fieldsOf T (nI t)) fun r1 => _) = _
        rw [o1_e (key T F), if_neg ((not_congr (n_le (by omega) (by omega))).mpr h), o1_e (hnm T F), o1_e (hh T F), if_pos (by decide), nI_1 i]
        exact hd T F
theorem pa_k1 {S : St} {M : Nat} (hI : INV S M) {t : Nat} (ht : t < cN S) : PA S (fun T => m_Te_kept T (nI t) 1) := by
  have h80 := hI.1.1.2.1
  by_cases hb : hB S 18 t = true
  · have h5 : S 18 5 = 0 := by
      by_cases z : S 18 5 = 0
      · exact z
      · rw [hI.2.2.1.2.1 z t (by omega)] at hb; cases hb
    obtain ⟨Y, O, hQ, -⟩ := hI.2.2.1.2.2 h5
    obtain ⟨d, hd⟩ := pa_rem hI.1 hQ.1 ht 200 0 (by omega) (by omega)
    refine PA.of (if t ∈ O then (if d = 0 then 0 else 1) else 0) (fun T F => ?_)
    unfold m_Te_kept m_Nur_isRemembered
    rw [o1_e (s_checkThing (x_gi F hI.1).1 (x_lt F ht)), o1_e (show m_Te_checkWhat T 1 4 = some () from rfl), if_neg (by decide), if_pos rfl, s_hasN (show t < 80 by omega), show hB T 18 t = true from (x_hB F (s := 1) (by omega) t).trans hb, o1_e rfl, if_neg (by decide), s_holdsN (x_row F hQ.2.1 (Or.inr rfl)) (show t < 80 by omega), o1_e rfl]
    by_cases hy : t ∈ O
    · rw [decide_eq_true hy, if_neg (by decide), o1_e (show m_Nur_isRemembered_L15 200 T (nI t) 0 = some d from hd T F), o1_e (s_asN T _), if_pos hy]
    · rw [decide_eq_false hy, if_pos (by decide), if_neg hy, o1_e rfl, o1_e (s_asN T _)]; rfl
  · refine PA.of (-1) (fun T F => ?_)
    unfold m_Te_kept
    rw [o1_e (s_checkThing (x_gi F hI.1).1 (x_lt F ht)), o1_e (show m_Te_checkWhat T 1 4 = some () from rfl), if_neg (by decide), if_pos rfl, s_hasN (show t < 80 by omega), show hB T 18 t = false by rw [show hB T 18 t = hB S 18 t from x_hB F (s := 1) (by omega) t]; simpa using hb, o1_e rfl]; rfl
theorem pa_k2 {S : St} {M : Nat} (hI : INV S M) {t : Nat} (ht : t < cN S) : PA S (fun T => m_Te_kept T (nI t) 2) := by
  have h80 := hI.1.1.2.1
  refine PA.of (clO S (some t)) (fun T F => ?_)
  unfold m_Te_kept
  rw [o1_e (s_checkThing (x_gi F hI.1).1 (x_lt F ht)), o1_e (show m_Te_checkWhat T 2 4 = some () from rfl), if_neg (by decide), if_neg (by decide), if_pos rfl, ← oI_s t, s_colourOf (x_gi F hI.1).1 (some t) (b_s (by omega)), (x_meq F).cl]; rfl
theorem pa_k3 {S : St} {M : Nat} (hI : INV S M) {t : Nat} (ht : t < cN S) : PA S (fun T => m_Te_kept T (nI t) 3) :=
  PA.of (if hB S 42 t = true then S 46 t else -1) (fun T F => by rw [s_kept3 (x_gi F hI.1).1 (x_lt F ht), show hB T 42 t = hB S 42 t from x_hB F (s := 3) (by omega) t, x_c F (by omega)])
theorem pa_k4 {S : St} {M : Nat} (hI : INV S M) {t : Nat} (ht : t < cN S) : PA S (fun T => m_Te_kept T (nI t) 4) := by
  have h80 := hI.1.1.2.1
  refine PA.of (if hB S 42 t = true then (if zb (sB S t) = 0 then 0 else 1) else -1) (fun T F => ?_)
  unfold m_Te_kept
  rw [o1_e (s_checkThing (x_gi F hI.1).1 (x_lt F ht)), o1_e (show m_Te_checkWhat T 4 4 = some () from rfl), if_neg (by decide), if_neg (by decide), if_neg (by decide), if_neg (by decide), s_hasN (show t < 80 by omega), show hB T 42 t = hB S 42 t from x_hB F (s := 3) (by omega) t]
  by_cases hb : hB S 42 t = true
  · rw [if_pos hb, hb, o1_e rfl, if_neg (by decide), s_isSus (show t < 80 by omega), (x_seq F).sb, o1_e rfl, o1_e (s_asN T _)]
  · rw [if_neg hb, show hB S 42 t = false by simpa using hb, o1_e rfl]; rfl
theorem pa_thing {S : St} {M : Nat} (hI : INV S M) {t : Nat} (ht : t < cN S) (a : Int64) : PA S (fun T => m_Te_mixedThing T a (nI t)) := by
  unfold m_Te_mixedThing
  refine PA.o1 (pa_of0 hI.1 ht) (fun _ => ?_)
  refine PA.o1 (PA.mx S _ _) (fun _ => ?_)
  refine PA.o1 (pa_of1 hI.1 ht) (fun _ => ?_)
  refine PA.o1 (PA.mx S _ _) (fun _ => ?_)
  refine PA.o1 (pa_of2 hI.1 ht) (fun _ => ?_)
  refine PA.o1 (PA.mx S _ _) (fun _ => ?_)
  refine PA.o1 (pa_L35 hI.1 ht 200 0 _ (by omega) (by omega)) (fun _ => ?_)
  refine PA.o1 (pa_pl hI.1 (s := 0) (d := 0) (by omega) ht) (fun _ => ?_)
  refine PA.o1 (PA.mx S _ _) (fun _ => ?_)
  refine PA.o1 (pa_pl hI.1 (s := 1) (d := 0) (by omega) ht) (fun _ => ?_)
  refine PA.o1 (PA.mx S _ _) (fun _ => ?_)
  refine PA.o1 (pa_pl hI.1 (s := 2) (d := 1) (by omega) ht) (fun _ => ?_)
  refine PA.o1 (PA.mx S _ _) (fun _ => ?_)
  refine PA.o1 (pa_pl hI.1 (s := 3) (d := 1) (by omega) ht) (fun _ => ?_)
  refine PA.o1 (PA.mx S _ _) (fun _ => ?_)
  refine PA.o1 (pa_k0 hI ht) (fun _ => ?_)
  refine PA.o1 (PA.mx S _ _) (fun _ => ?_)
  refine PA.o1 (pa_k1 hI ht) (fun _ => ?_)
  refine PA.o1 (PA.mx S _ _) (fun _ => ?_)
  refine PA.o1 (pa_k2 hI ht) (fun _ => ?_)
  refine PA.o1 (PA.mx S _ _) (fun _ => ?_)
  refine PA.o1 (pa_k3 hI ht) (fun _ => ?_)
  refine PA.o1 (PA.mx S _ _) (fun _ => ?_)
  refine PA.o1 (pa_k4 hI ht) (fun _ => ?_)
  refine PA.o1 (PA.mx S _ _) (fun _ => ?_)
  exact PA.s _
theorem pa_L16 {S : St} {M : Nat} (hI : INV S M) : ∀ (n i : Nat) (a : Int64), i ≤ cN S → cN S - i < n → PA S (fun T => m_Te_digest_L16 n T a (nI i)) := by
  intro n
  have h80 := hI.1.1.2.1
  induction n with
  | zero => intro i a hi hn; omega
  | succ n ih =>
    intro i a hi hn
    have hc : ∀ T, Fr scr S T → T 1 6 = nI (cN S) := fun T F => by rw [(x_geq F).1, hI.1.1.1]
    by_cases h : cN S ≤ i
    · refine PA.of a (fun T F => ?_)
      show (if T 1 6 ≤ nI i then _ else _) = _
      rw [hc T F, if_pos ((n_le (by omega) (by omega)).mpr h)]
    · obtain ⟨r, hr⟩ := pa_thing hI (show i < cN S by omega) a
      obtain ⟨d, hd⟩ := ih (i + 1) r (by omega) (by omega)
      refine PA.of d (fun T F => ?_)
      show (if T 1 6 ≤ nI i then _ else _) = _
      rw [hc T F, if_neg ((not_congr (n_le (by omega) (by omega))).mpr h), o1_e (hr T F), nI_1 i]
      exact hd T F
set_option maxHeartbeats 4000000 in
set_option maxRecDepth 20000 in
theorem dg_digest {S : St} {M : Nat} {A W : Nat → Nat} (hI : INV S M) (hM : M < 160) (hP : P4 S A W) (hW : ∀ s, W s ≤ 1000000000) : DG S m_Te_digest := by
  unfold m_Te_digest
  refine DG.o1 (PA.of ((58088 : Int64) * 31 + (S 1 6).toInt64) (fun T F => by rw [(x_geq F).1]; rfl)) (fun _ => ?_)
  refine DG.o1 (pa_L16 hI 200 0 _ (Nat.zero_le _) (by have := hI.1.1.2.1; omega)) (fun _ => ?_)
  refine DG.ob (dg_told0 hI.1 (s := 0) (by omega)) (fun _ => ?_)
  refine DG.o1 (PA.mx S _ _) (fun _ => ?_)
  refine DG.ob (dg_told1 hI.1 (s := 0) (by omega)) (fun _ => ?_)
  refine DG.o1 (PA.mx S _ _) (fun _ => ?_)
  refine DG.ob (dg_told2 hI.1 (s := 0) (by omega)) (fun _ => ?_)
  refine DG.o1 (PA.mx S _ _) (fun _ => ?_)
  refine DG.ob (dg_told3 hI.1 (s := 0) (by omega)) (fun _ => ?_)
  refine DG.o1 (PA.mx S _ _) (fun _ => ?_)
  refine DG.ob (dg_told4 hI.1 (s := 0) (by omega)) (fun _ => ?_)
  refine DG.o1 (PA.mx S _ _) (fun _ => ?_)
  refine DG.ob (dg_told5 hI hM (s := 0) (by omega)) (fun _ => ?_)
  refine DG.o1 (PA.mx S _ _) (fun _ => ?_)
  refine DG.ob (dg_told6 hI.1 (s := 0) (by omega)) (fun _ => ?_)
  refine DG.o1 (PA.mx S _ _) (fun _ => ?_)
  refine DG.ob (dg_told7 (s := 0) (by omega)) (fun _ => ?_)
  refine DG.o1 (PA.mx S _ _) (fun _ => ?_)
  refine DG.ob (dg_go hI hM hP hW (s := 0) (by omega)) (fun _ => ?_)
  refine DG.o1 (PA.mx S _ _) (fun _ => ?_)
  refine DG.ob (dg_wk hI hM hP hW (s := 0) (by omega)) (fun _ => ?_)
  refine DG.o1 (PA.mx S _ _) (fun _ => ?_)
  refine DG.ob (dg_told0 hI.1 (s := 1) (by omega)) (fun _ => ?_)
  refine DG.o1 (PA.mx S _ _) (fun _ => ?_)
  refine DG.ob (dg_told1 hI.1 (s := 1) (by omega)) (fun _ => ?_)
  refine DG.o1 (PA.mx S _ _) (fun _ => ?_)
  refine DG.ob (dg_told2 hI.1 (s := 1) (by omega)) (fun _ => ?_)
  refine DG.o1 (PA.mx S _ _) (fun _ => ?_)
  refine DG.ob (dg_told3 hI.1 (s := 1) (by omega)) (fun _ => ?_)
  refine DG.o1 (PA.mx S _ _) (fun _ => ?_)
  refine DG.ob (dg_told4 hI.1 (s := 1) (by omega)) (fun _ => ?_)
  refine DG.o1 (PA.mx S _ _) (fun _ => ?_)
  refine DG.ob (dg_told5 hI hM (s := 1) (by omega)) (fun _ => ?_)
  refine DG.o1 (PA.mx S _ _) (fun _ => ?_)
  refine DG.ob (dg_told6 hI.1 (s := 1) (by omega)) (fun _ => ?_)
  refine DG.o1 (PA.mx S _ _) (fun _ => ?_)
  refine DG.ob (dg_told7 (s := 1) (by omega)) (fun _ => ?_)
  refine DG.o1 (PA.mx S _ _) (fun _ => ?_)
  refine DG.ob (dg_go hI hM hP hW (s := 1) (by omega)) (fun _ => ?_)
  refine DG.o1 (PA.mx S _ _) (fun _ => ?_)
  refine DG.ob (dg_wk hI hM hP hW (s := 1) (by omega)) (fun _ => ?_)
  refine DG.o1 (PA.mx S _ _) (fun _ => ?_)
  refine DG.ob (dg_told0 hI.1 (s := 2) (by omega)) (fun _ => ?_)
  refine DG.o1 (PA.mx S _ _) (fun _ => ?_)
  refine DG.ob (dg_told1 hI.1 (s := 2) (by omega)) (fun _ => ?_)
  refine DG.o1 (PA.mx S _ _) (fun _ => ?_)
  refine DG.ob (dg_told2 hI.1 (s := 2) (by omega)) (fun _ => ?_)
  refine DG.o1 (PA.mx S _ _) (fun _ => ?_)
  refine DG.ob (dg_told3 hI.1 (s := 2) (by omega)) (fun _ => ?_)
  refine DG.o1 (PA.mx S _ _) (fun _ => ?_)
  refine DG.ob (dg_told4 hI.1 (s := 2) (by omega)) (fun _ => ?_)
  refine DG.o1 (PA.mx S _ _) (fun _ => ?_)
  refine DG.ob (dg_told5 hI hM (s := 2) (by omega)) (fun _ => ?_)
  refine DG.o1 (PA.mx S _ _) (fun _ => ?_)
  refine DG.ob (dg_told6 hI.1 (s := 2) (by omega)) (fun _ => ?_)
  refine DG.o1 (PA.mx S _ _) (fun _ => ?_)
  refine DG.ob (dg_told7 (s := 2) (by omega)) (fun _ => ?_)
  refine DG.o1 (PA.mx S _ _) (fun _ => ?_)
  refine DG.ob (dg_go hI hM hP hW (s := 2) (by omega)) (fun _ => ?_)
  refine DG.o1 (PA.mx S _ _) (fun _ => ?_)
  refine DG.ob (dg_wk hI hM hP hW (s := 2) (by omega)) (fun _ => ?_)
  refine DG.o1 (PA.mx S _ _) (fun _ => ?_)
  refine DG.ob (dg_told0 hI.1 (s := 3) (by omega)) (fun _ => ?_)
  refine DG.o1 (PA.mx S _ _) (fun _ => ?_)
  refine DG.ob (dg_told1 hI.1 (s := 3) (by omega)) (fun _ => ?_)
  refine DG.o1 (PA.mx S _ _) (fun _ => ?_)
  refine DG.ob (dg_told2 hI.1 (s := 3) (by omega)) (fun _ => ?_)
  refine DG.o1 (PA.mx S _ _) (fun _ => ?_)
  refine DG.ob (dg_told3 hI.1 (s := 3) (by omega)) (fun _ => ?_)
  refine DG.o1 (PA.mx S _ _) (fun _ => ?_)
  refine DG.ob (dg_told4 hI.1 (s := 3) (by omega)) (fun _ => ?_)
  refine DG.o1 (PA.mx S _ _) (fun _ => ?_)
  refine DG.ob (dg_told5 hI hM (s := 3) (by omega)) (fun _ => ?_)
  refine DG.o1 (PA.mx S _ _) (fun _ => ?_)
  refine DG.ob (dg_told6 hI.1 (s := 3) (by omega)) (fun _ => ?_)
  refine DG.o1 (PA.mx S _ _) (fun _ => ?_)
  refine DG.ob (dg_told7 (s := 3) (by omega)) (fun _ => ?_)
  refine DG.o1 (PA.mx S _ _) (fun _ => ?_)
  refine DG.ob (dg_go hI hM hP hW (s := 3) (by omega)) (fun _ => ?_)
  refine DG.o1 (PA.mx S _ _) (fun _ => ?_)
  refine DG.ob (dg_wk hI hM hP hW (s := 3) (by omega)) (fun _ => ?_)
  refine DG.o1 (PA.mx S _ _) (fun _ => ?_)
  refine DG.o1 (pa_more 0 (by decide)) (fun _ => ?_)
  refine DG.o1 (PA.mx S _ _) (fun _ => ?_)
  refine DG.o1 (pa_more 1 (by decide)) (fun _ => ?_)
  refine DG.o1 (PA.mx S _ _) (fun _ => ?_)
  refine DG.o1 (pa_more 2 (by decide)) (fun _ => ?_)
  refine DG.o1 (PA.mx S _ _) (fun _ => ?_)
  refine DG.o1 (pa_more 3 (by decide)) (fun _ => ?_)
  refine DG.o1 (PA.mx S _ _) (fun _ => ?_)
  refine DG.ob (dg_lose hI.1 (r := 0) (by omega)) (fun _ => ?_)
  refine DG.o1 (PA.mx S _ _) (fun _ => ?_)
  refine DG.ob (dg_lose hI.1 (r := 1) (by omega)) (fun _ => ?_)
  refine DG.o1 (PA.mx S _ _) (fun _ => ?_)
  refine DG.ob (dg_lose hI.1 (r := 2) (by omega)) (fun _ => ?_)
  refine DG.o1 (PA.mx S _ _) (fun _ => ?_)
  refine DG.ob (dg_lose hI.1 (r := 3) (by omega)) (fun _ => ?_)
  refine DG.o1 (PA.mx S _ _) (fun _ => ?_)
  refine DG.ob (dg_lose hI.1 (r := 4) (by omega)) (fun _ => ?_)
  refine DG.o1 (PA.mx S _ _) (fun _ => ?_)
  refine DG.ob (dg_lose hI.1 (r := 5) (by omega)) (fun _ => ?_)
  refine DG.o1 (PA.mx S _ _) (fun _ => ?_)
  exact DG.s _
