/-! the law: the stores one by one, the counts one by one -/
theorem P4.at {S : St} {A W : Nat → Nat} (h : P4 S A W) {s : Nat} (hs : s < 4) : PS S (kS s) (dS s) (A s) (W s) := by
  obtain ⟨a, b, c, d⟩ := h
  have h : s = 0 ∨ s = 1 ∨ s = 2 ∨ s = 3 := by omega
  rcases h with rfl | rfl | rfl | rfl
  · exact a
  · exact b
  · exact c
  · exact d
theorem s_L301 {S : St} {M : Nat} {A W P : Nat → Nat} (hI : INV S M) (hM : M < 160) (hP : P4 S A W) (v5 : Int32) (hPW : ∀ s, s < 4 → P s ≤ W s) (hWb : ∀ s, s < 4 → W s < 2147483648)
    (hor : (∀ s, s < 4 → A s = P s) ∨ m_Law_below S (v5 >>> ((6 : Int32) &&& 31)) 6 = some 0) : ∀ (n s : Nat) (w : Nat → Int32), s ≤ 4 → 4 - s < n → (∀ j, s ≤ j → j < 4 → w j = nI (P j)) →
    ∃ w2, m_law_L301 n S (nI M) v5 (nI (cN S)) (nI s) w = some (w2, S) ∧ (∀ j, s ≤ j → j < 4 → w2 j = nI (W j)) ∧ ∀ j, j < s → w2 j = w j := by
  intro n
  have hG := hI.1
  induction n with
  | zero => intro s w hs hn; omega
  | succ n ih =>
    intro s w hs hn hw
    show ∃ w2, (if nI 4 ≤ nI s then _ else _) = _ ∧ _
    by_cases h : 4 ≤ s
    · rw [if_pos ((n_le (a := 4) (by omega) (by omega)).mpr h)]
      exact ⟨w, rfl, fun j h1 h2 => by omega, fun _ _ => rfl⟩
    · have hs4 : s < 4 := by omega
      have hh := hI.has hs4
      have hp := hP.at hs4
      rw [if_neg ((not_congr (n_le (a := 4) (by omega) (by omega))).mpr h), ob_e (s_S307 hs4)]
      rw [oi_t (show ¬ nI M < 0 ∧ (nI M).toNatClampNeg ≤ 160 by rw [n_cl (show M < 2147483648 by omega)]; exact ⟨n_nneg (by omega), by omega⟩)]
      have e := s_L343 hG (show M < 1000 by omega) hs4 hh 200 0 (fun _ => 0) (Nat.zero_le _) (by have := hG.1.2.1; omega) (fun x hx => absurd rfl hx)
      rw [oc_e (show m_law_L343 200 S (nI M) (nI (cN S)) (nI s) (if S (kS s) (dS s + 5) = 0 then 0 else 1) 0 0 0 0 (fun _ => 0) = _ from e)]
      rw [o1_e (s_S490 hG hs4 hp v5 w (hw s (Nat.le_refl _) hs4) (hPW s hs4) (hWb s hs4) (hor.imp (fun z => z s hs4) id))]
      have t3 := s_told3 hG hs4
      rw [hp.1] at t3
      rw [ob_e t3, oi_t (n_in hs4 (by omega)), nI_1 s]
      simp only [n_cl (show s < 2147483648 by omega)]
      obtain ⟨w2, k1, k2, k3⟩ := ih (s + 1) (upd w s (nI (W s))) (by omega) (by omega) (fun j h1 h2 => by rw [pk_un (by omega)]; exact hw j (by omega) h2)
      refine ⟨w2, k1, fun j h1 h2 => ?_, fun j h1 => ?_⟩
      · by_cases hj : j = s
        · subst hj; rw [k3 _ (by omega), pk_us]
        · exact k2 j (by omega) h2
      · rw [k3 j (by omega), pk_un (by omega)]
theorem s_kept3 {S : St} (hG : GW S) {t : Nat} (ht : t < cN S) : m_Te_kept S (nI t) 3 = some (if hB S 42 t = true then S 46 t else -1) := by
  have h80 := hG.2.1
  unfold m_Te_kept
  rw [o1_e (s_checkThing hG ht), o1_e (show m_Te_checkWhat S 3 4 = some () from rfl), if_neg (by decide), if_neg (by decide), if_neg (by decide), if_pos (by decide)]
  unfold m_Cou_countOf
  rw [s_hasN (show t < 80 by omega)]
  by_cases h : hB S 42 t = true
  · rw [h, o1_e rfl, if_neg (by decide), if_pos rfl, oi_t (n_in (show t < 80 by omega) (by omega)), n_cl (show t < 2147483648 by omega)]; rfl
  · rw [show hB S 42 t = false by simpa using h, o1_e rfl]; rfl
theorem s_S630 {S : St} {M : Nat} (hI : INV S M) {t : Nat} (ht : t < cN S) {v : Int32} (hv : v = if hB S 42 t = true then S 46 t else -1) : m_law_S630 S (nI t) v = some S := by
  have hG := hI.1
  have h80 := hG.1.2.1
  unfold m_law_S630
  by_cases h : hB S 42 t = true
  · have h6 : S 42 6 = 0 := by
      by_cases z : S 42 6 = 0
      · exact z
      · rw [hI.2.2.2.2.1.2.2.2 z t (by omega)] at h; cases h
    obtain ⟨hE, hP, hC⟩ := hI.2.2.2.2.2 h6
    have e : S 42 6 = 0 ∧ S 46 t = nI (nf S t + nr S t) := ⟨h6, hE t ht h⟩
    have p : 1 ≤ nf S t + nr S t := hP t ht h
    have b1 := nf_le hG.1 t
    have b2 := nr_le S t
    rw [if_pos h, e.2] at hv
    rw [hv, if_neg (nI_ne0 p (by omega)), if_pos (nI_pos' (by omega))]
  · rw [if_neg h] at hv
    rw [hv, if_neg (by decide), if_neg (by decide), o1_e (s_of1 hG ht)]
    by_cases hr : t ∈ rcL S
    · rw [decide_eq_true hr, if_pos (by decide), show (3 : Int32) = nI 3 from rfl, ob_e (s_told7 (S := S) (s := 3) (by omega))]
      have h6 : S (kS 3) (dS 3 + 5) ≠ 0 := fun z => h ((hI.has (s := 3) (by omega)).2.2 z t hr)
      rw [if_neg h6, if_neg (by decide)]
    · rw [decide_eq_false hr, if_neg (by decide)]
theorem s_nmd {S : St} (hG : GW S) {x i : Nat} (hx : x < cN S) (hi : i < fN S x) : m_Te_named S (nI x) (nI i) = some (oI (nmQ S (some x) i)) := by
  have h80 := hG.2.1
  have hf3 := (hG.2.2.1 x hx).2.1
  unfold m_Te_named
  rw [o1_e (s_hasField hG hx hi), if_neg (by decide), ← oI_s x, o1_e (s_nameOf hG (some x) (b_s (by omega)) i (by omega))]
theorem s_S691 {S : St} (hG : GW S) {M x t i v : Nat} (hM : M < 160) (hP : PO S 42 M) (hx : x < cN S) (ht : t < cN S) (hi : i < fN S x) : m_law_S691 S (nI t) (nI v) (nI x) (nI i) = some (nI (v + if hB S 42 x = true then (if nmQ S (some x) i = some t then 1 else 0) else 0)) := by
  have h80 := hG.2.1
  unfold m_law_S691
  rw [show (3 : Int32) = nI 3 from rfl, o1_e (s_at hG (s := 3) (by omega) hx), show (0 : Int32) = nI 0 from rfl, show (1 : Int32) = nI 1 from rfl, nI_add, nI_add]
  by_cases hb : hB S 42 x = true
  · have hb' : hB S (kS 3) x = true := hb
    have hp := hP.1 x hx hb
    rw [if_pos hb', show S (kS 3 + 2) x = nI (pl S 42 x) from hp.1, if_neg (show ¬ nI (pl S 42 x) < nI 0 from n_nneg (show pl S 42 x < 2147483648 by omega)), o1_e (s_nmd hG hx hi), if_pos hb]
    have key : oI (nmQ S (some x) i) = nI t ↔ nmQ S (some x) i = some t := by
      rw [← oI_s t]
      exact oI_inj (fun u hu => by have := hG.b_nq (some x) i u hu; omega) (fun u hu => by cases hu; omega)
    by_cases hn : nmQ S (some x) i = some t
    · rw [if_pos (key.mpr hn), if_pos hn]
    · rw [if_neg (fun z => hn (key.mp z)), if_neg hn]
  · have hb' : ¬ hB S (kS 3) x = true := hb
    rw [if_neg hb', if_neg hb, if_pos (by decide)]
theorem s_L679 {S : St} (hG : GW S) {M x t : Nat} (hM : M < 160) (hP : PO S 42 M) (hx : x < cN S) (ht : t < cN S) : ∀ (n i v : Nat), i ≤ 3 → 3 - i < n →
    m_law_L679 n S (nI t) (nI v) (nI x) (nI i) = some (nI (v + if hB S 42 x = true then ct (kidsF S (some x) i) t else 0)) := by
  intro n
  have h80 := hG.2.1
  have hf3 := (hG.2.2.1 x hx).2.1
  have hfo : fO S (some x) = fN S x := by rw [fO_s, if_pos hx]
  induction n with
  | zero => intro i v hi hn; omega
  | succ n ih =>
    intro i v hi hn
    show (o1 (m_Te_ofThing S (nI x) (0 : Int32)) fun r1 => _) = _
    rw [o1_e (s_of0 hG hx)]
    by_cases h : fN S x ≤ i
    · rw [if_pos ((n_le (by omega) (by omega)).mpr h), kidsF_end (by rw [hfo]; exact h)]
      have : (if hB S 42 x = true then ct [] t else 0) = 0 := by
        by_cases z : hB S 42 x = true
        · rw [if_pos z]; rfl
        · rw [if_neg z]
      rw [this]; rfl
    · rw [if_neg ((not_congr (n_le (by omega) (by omega))).mpr h), kidsF_cons (by rw [hfo]; omega), ct_c, o1_e (s_S691 hG hM hP hx ht (by omega)), nI_1 i, ih (i + 1) _ (by omega) (by omega)]
      congr 2
      by_cases hb : hB S 42 x = true
      · rw [if_pos hb, if_pos hb, if_pos hb]; omega
      · rw [if_neg hb, if_neg hb, if_neg hb]
theorem s_L669 {S : St} (hG : GW S) {M t : Nat} (hM : M < 160) (hP : PO S 42 M) (ht : t < cN S) : ∀ (n i : Nat), i ≤ cN S → cN S - i < n →
    m_law_L669 n S (nI (cN S)) (nI t) (nI (sm (nfF S t) i)) (nI i) = some (nI (nf S t)) := by
  intro n
  have h80 := hG.2.1
  induction n with
  | zero => intro i hi hn; omega
  | succ n ih =>
    intro i hi hn
    show (if nI (cN S) ≤ nI i then _ else _) = _
    by_cases h : cN S ≤ i
    · have : i = cN S := by omega
      subst this
      rw [if_pos ((n_le (by omega) (by omega)).mpr h)]; rfl
    · rw [if_neg ((not_congr (n_le (by omega) (by omega))).mpr h), show (0 : Int32) = nI 0 from rfl, o1_e (s_L679 hG hM hP (show i < cN S by omega) ht 200 0 _ (by omega) (by omega)), nI_1 i]
      exact ih (i + 1) (by omega) (by omega)
theorem s_S736 {S : St} {M : Nat} (hI : INV S M) {t : Nat} (ht : t < cN S) {v : Int32} (hv : v = if hB S 42 t = true then S 46 t else -1) : m_law_S736 S (nI t) v (nI (nf S t)) = some () := by
  have hG := hI.1
  have h80 := hG.1.2.1
  have b1 := nf_le hG.1 t
  have b2 := nr_le S t
  unfold m_law_S736
  by_cases h : hB S 42 t = true
  · have h6 : S 42 6 = 0 := by
      by_cases z : S 42 6 = 0
      · exact z
      · rw [hI.2.2.2.2.1.2.2.2 z t (by omega)] at h; cases h
    obtain ⟨hE, hP, hC⟩ := hI.2.2.2.2.2 h6
    have e : S 46 t = nI (nf S t + nr S t) := hE t ht h
    rw [if_pos h, e] at hv
    rw [hv, if_neg (n_nneg (by omega)), if_neg ((not_congr (n_lt (by omega) (by omega))).mpr (by omega)), show (6 : Int32) = nI 6 from rfl, nI_add, if_neg ((not_congr (n_lt (by omega) (by omega))).mpr (by omega)), o1_e (s_of2 hG.1 ht)]
    by_cases hd : S 5 t = 0
    · have hr := nr_pos.mpr (hG.2.2 t ht hd)
      rw [if_pos hd, if_neg ((not_congr (n_eq (by omega) (by omega))).mpr (by omega))]
    · rw [if_neg hd]
  · rw [if_neg h] at hv
    rw [hv, if_pos (by decide), o1_e (s_of2 hG.1 ht), if_neg (show ¬ (-1 : Int32) = nI (nf S t) from fun z => m1_ne (show nf S t < 2147483648 by omega) z.symm)]
    by_cases hd : S 5 t = 0
    · rw [if_pos hd]
    · rw [if_neg hd]
theorem s_L614 {S : St} {M : Nat} (hI : INV S M) (hM : M < 160) : ∀ (n i : Nat), i ≤ cN S → cN S - i < n → m_law_L614 n S (nI (cN S)) (nI i) = some S := by
  intro n
  have hG := hI.1
  have h80 := hG.1.2.1
  have hP : PO S 42 M := hI.2.2.2.2.1.2.2.1
  induction n with
  | zero => intro i hi hn; omega
  | succ n ih =>
    intro i hi hn
    show (if nI (cN S) ≤ nI i then _ else _) = _
    by_cases h : cN S ≤ i
    · rw [if_pos ((n_le (by omega) (by omega)).mpr h)]
    · have hi' : i < cN S := by omega
      rw [if_neg ((not_congr (n_le (by omega) (by omega))).mpr h), o1_e (s_kept3 hG.1 hi'), o1_e (s_S630 hI hi' rfl)]
      rw [o1_e (show m_law_L669 200 S (nI (cN S)) (nI i) 0 0 = _ from s_L669 hG.1 hM hP hi' 200 0 (by omega) (by omega)), o1_e (s_S736 hI hi' rfl), nI_1 i]
      exact ih (i + 1) (by omega) (by omega)
