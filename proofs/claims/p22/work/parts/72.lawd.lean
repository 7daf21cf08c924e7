/-! the law: a round -/
theorem P4.self {S : St} {A W : Nat → Nat} (h : P4 S A W) : P4 S W W := ⟨h.1.self, h.2.1.self, h.2.2.1.self, h.2.2.2.self⟩
def S1O (S : St) (M : Nat) (W : Nat → Nat) (x : Option St) : Prop := ∃ T W', x = some T ∧ INV T M ∧ cN S ≤ cN T ∧ cN T ≤ cN S + 1 ∧ P4 T W W' ∧ ∀ s, W s ≤ W' s ∧ W' s ≤ W s + 2340
theorem s_mk127 {S : St} {M f r : Nat} {A W : Nat → Nat} (hM40 : 40 ≤ M) (hM160 : M < 160) (hI : INV S M) (hP : P4 S A W) (hf : f < 4) (hr : r < 6) (hc : cN S < 80) (hWb : ∀ s, W s ≤ 1000000000) :
    S1O S M W (ob (m_Te_make S (nI f) (nI r)) fun r3 S1 => if r3 = nI (cN S) then some S1 else none) := by
  obtain ⟨T, W', e, k1, k2, k3, k4⟩ := s_makeCall hM40 hM160 hI hP (show f ≤ 3 by omega) hr hc hWb
  rw [ob_e e, if_pos rfl]
  exact ⟨T, W', rfl, k1, by omega, by omega, k3, k4⟩
theorem s_S127 {S : St} {M x y q : Nat} {A W : Nat → Nat} (v5 : Int32) (hM40 : 40 ≤ M) (hM160 : M < 160) (hI : INV S M) (hP : P4 S A W) (hc : cN S < 80) (hx : cN S = 0 ∨ x < cN S) (hy : cN S = 0 ∨ y < cN S) (hq : q < 8) (hWb : ∀ s, W s ≤ 1000000000) :
    S1O S M W (m_law_S127 S v5 (nI (cN S)) (nI x) (nI y) (nI q)) := by
  have hG := hI.1
  obtain ⟨f, hf, ef⟩ := s_below S (v5 >>> ((2 : Int32) &&& 31)) (n := 4) (by omega) (by omega)
  obtain ⟨r, hr, er⟩ := s_below S (v5 >>> ((4 : Int32) &&& 31)) (n := 6) (by omega) (by omega)
  have ef' : m_Law_below S (v5 >>> ((2 : Int32) &&& 31)) 4 = some (nI f) := ef
  have er' : m_Law_below S (v5 >>> ((4 : Int32) &&& 31)) 6 = some (nI r) := er
  have keep : S1O S M W (some S) := ⟨S, W, rfl, hI, Nat.le_refl _, Nat.le_succ _, hP.self, fun s => ⟨Nat.le_refl _, by omega⟩⟩
  unfold m_law_S127
  by_cases h4 : q < 4
  · rw [if_pos (show nI q < (4 : Int32) from (n_lt (b := 4) (by omega) (by omega)).mpr h4), o1_e ef', o1_e er']
    exact s_mk127 hM40 hM160 hI hP hf hr hc hWb
  · rw [if_neg (show ¬ nI q < (4 : Int32) from (not_congr (n_lt (b := 4) (by omega) (by omega))).mpr h4)]
    by_cases h0 : cN S = 0
    · rw [if_pos (show nI (cN S) = (0 : Int32) by rw [h0]; rfl), o1_e ef', o1_e er']
      exact s_mk127 hM40 hM160 hI hP hf hr hc hWb
    · have hx' := hx.resolve_left h0
      have hy' := hy.resolve_left h0
      rw [if_neg (nI_ne0 (by omega) (by omega))]
      by_cases hq4 : q = 4
      · rw [if_pos (show nI q = (4 : Int32) by rw [hq4]; rfl), o1_e er']
        obtain ⟨v, T, W', e, k1, k2, k3, k4⟩ := s_rootCall hI hP hr hWb
        rw [ob_e e]
        exact ⟨T, W', rfl, k1, by omega, by omega, k3, fun s => ⟨(k4 s).1, by have := (k4 s).2; omega⟩⟩
      · rw [if_neg (show ¬ nI q = (4 : Int32) from (not_congr (n_eq (b := 4) (by omega) (by omega))).mpr hq4), o1_e (s_of1 hG hx')]
        by_cases hxr : x ∈ rcL S
        · rw [decide_eq_true hxr, if_pos (by decide), o1_e (s_of1 hG hy')]
          by_cases hyr : y ∈ rcL S
          · rw [decide_eq_true hyr, if_pos (by decide), o1_e (s_of0 hG.1 hx')]
            have hf3 := (hG.1.2.2.1 x hx').2.1
            by_cases hf0 : fN S x = 0
            · rw [if_pos (show nI (fN S x) ≤ (0 : Int32) from (n_le (b := 0) (by omega) (by omega)).mpr (by omega))]
              exact keep
            · rw [if_neg (show ¬ nI (fN S x) ≤ (0 : Int32) from (not_congr (n_le (b := 0) (by omega) (by omega))).mpr (by omega)), o1_e (s_of0 hG.1 hx')]
              obtain ⟨i, hi, ei⟩ := s_below S (v5 >>> ((2 : Int32) &&& 31)) (n := fN S x) (by omega) (by omega)
              rw [o1_e ei]
              obtain ⟨v, T, W', e, k1, k2, k3, k4, k5⟩ := s_setCall hI hP hi hxr hyr hWb
              rw [ob_e e, o1_e k5, if_pos rfl]
              exact ⟨T, W', rfl, k1, by omega, by omega, k3, fun s => ⟨(k4 s).1, by have := (k4 s).2; omega⟩⟩
          · rw [decide_eq_false hyr, if_neg (by decide)]
            exact keep
        · rw [decide_eq_false hxr, if_neg (by decide)]
          exact keep
theorem s_S264 {S : St} {M : Nat} {A W : Nat → Nat} (v5 : Int32) (hI : INV S M) (hP : P4 S A W) (hWb : ∀ s, W s ≤ 1000000000) :
    ∃ T A' W', m_law_S264 S v5 = some T ∧ INV T M ∧ cN T = cN S ∧ P4 T A' W' ∧ (∀ s, W s ≤ W' s ∧ W' s ≤ W s + 2000) ∧ (A' = A ∨ m_Law_below T (v5 >>> ((6 : Int32) &&& 31)) 6 = some 0) := by
  obtain ⟨r, hr, er⟩ := s_below S (v5 >>> ((6 : Int32) &&& 31)) (n := 6) (by omega) (by omega)
  obtain ⟨a, ha, ea⟩ := s_below S (v5 >>> ((2 : Int32) &&& 31)) (n := 3) (by omega) (by omega)
  have er' : m_Law_below S (v5 >>> ((6 : Int32) &&& 31)) 6 = some (nI r) := er
  have ea' : m_Law_below S (v5 >>> ((2 : Int32) &&& 31)) 3 = some (nI a) := ea
  unfold m_law_S264
  rw [o1_e er']
  by_cases h : r = 0
  · subst h
    rw [if_pos (show nI 0 = 0 from rfl), o1_e ea', show (1 : Int32) = nI 1 from rfl, nI_add]
    obtain ⟨v, T, W', e, k1, k2, k3, k4⟩ := s_stepsCall hI hP (show 1 ≤ 1 + a by omega) (by omega) hWb
    rw [ob_e e]
    exact ⟨T, W, W', rfl, k1, k2, k3, k4, Or.inr er'⟩
  · rw [if_neg (nI_ne0 (by omega) (by omega))]
    exact ⟨S, A, W, rfl, hI, rfl, hP, fun s => ⟨Nat.le_refl _, by omega⟩, Or.inl rfl⟩
theorem s_L41 (xs : Nat → Int32) {L M : Nat} (hL : L ≤ 260) (hM40 : 40 ≤ M) (hM160 : M < 160) : ∀ (n i : Nat) (S : St) (A W : Nat → Nat) (w : Nat → Int32), i ≤ 40 → 40 - i < n → INV S M → cN S ≤ i → P4 S A W → (∀ s, W s ≤ 5000 * i) → (∀ s, s < 4 → w s = nI (W s)) →
    ∃ T A' W', m_law_L41 xs L n S (nI M) (nI i) w = some T ∧ INV T M ∧ P4 T A' W' ∧ ∀ s, W' s ≤ 200000 := by
  intro n
  induction n with
  | zero => intro i S A W w hi hn; omega
  | succ n ih =>
    intro i S A W w hi hn hI hc hP hWb hw
    show ∃ T A' W', (if nI 40 ≤ nI i then _ else _) = _ ∧ _
    by_cases h : 40 ≤ i
    · rw [if_pos ((n_le (by omega) (by omega)).mpr h)]
      exact ⟨S, A, W, rfl, hI, hP, fun s => by have := hWb s; omega⟩
    · rw [if_neg ((not_congr (n_le (by omega) (by omega))).mpr h)]
      have e16 : nI i - nI i / (16 : Int32) * (16 : Int32) = nI (i % 16) := pk_rem (d := 16) (by omega) (by omega) (by omega)
      rw [e16]
      obtain ⟨v, ev⟩ := s_cell xs hL (show i % 16 < 1000 by omega)
      rw [o1_e ev]
      generalize (v >>> (((nI i / (16 : Int32)) * (2 : Int32)) &&& 31)) + ((5 : Int32) * nI i) = v5
      have hcn : m_Te_things S = some (nI (cN S)) := by unfold m_Te_things; rw [hI.1.1.1]
      have h80 : cN S < 80 := by omega
      obtain ⟨x, hx, ex⟩ := s_S78 S v5 (n := cN S) (by omega)
      obtain ⟨y, hy, ey⟩ := s_S98 S v5 (n := cN S) (by omega)
      obtain ⟨q, hq, eq⟩ := s_below S v5 (n := 8) (by omega) (by omega)
      have hWb' : ∀ s, W s ≤ 1000000000 := fun s => by have := hWb s; omega
      obtain ⟨S1, W1, e1, i1, c1, c1', p1, b1⟩ := s_S127 v5 hM40 hM160 hI hP h80 hx hy hq hWb'
      obtain ⟨S2, A2, W2, e2, i2, c2, p2, b2, o2⟩ := s_S264 v5 i1 p1 (fun s => by have := hWb s; have := (b1 s).2; omega)
      have hcn2 : m_Te_things S2 = some (nI (cN S2)) := by unfold m_Te_things; rw [i2.1.1.1]
      obtain ⟨w2, e3, k3, _⟩ := s_L301 (P := W) i2 hM160 p2 v5 (fun s _ => Nat.le_trans (b1 s).1 (b2 s).1) (fun s _ => by have := hWb s; have := (b1 s).2; have := (b2 s).2; omega)
        (o2.imp (fun z s _ => by rw [z]) id) 10 0 w (by omega) (by omega) (fun j _ h2 => hw j h2)
      have e4 := s_L614 i2 hM160 200 0 (Nat.zero_le _) (by have := i2.1.1.2.1; omega)
      rw [o1_e hcn, o1_e ex, o1_e ey, o1_e (show m_Law_below S v5 8 = _ from eq), o1_e e1, o1_e e2, o1_e hcn2, ob_e (show m_law_L301 10 S2 (nI M) v5 (nI (cN S2)) 0 w = _ from e3), o1_e (show m_law_L614 200 S2 (nI (cN S2)) 0 = _ from e4), nI_1 i]
      exact ih (i + 1) S2 A2 W2 w2 (by omega) (by omega) i2 (by omega) p2 (fun s => by have := hWb s; have := (b1 s).2; have := (b2 s).2; omega) (fun s hs => k3 s (Nat.zero_le _) hs)
