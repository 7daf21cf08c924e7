/-! sums -/
def sm (f : Nat → Nat) : Nat → Nat
  | 0 => 0
  | n + 1 => sm f n + f n
theorem sm_s (f : Nat → Nat) (n : Nat) : sm f (n + 1) = sm f n + f n := rfl
theorem sm_le {f : Nat → Nat} {c : Nat} : ∀ {n : Nat}, (∀ i, i < n → f i ≤ c) → sm f n ≤ c * n := by
  intro n
  induction n with
  | zero => intro _; exact Nat.zero_le _
  | succ n ih =>
    intro h
    have h1 := ih (fun i hi => h i (by omega))
    have h2 := h n (by omega)
    rw [sm_s, Nat.mul_succ]; omega
theorem sm_congr {f g : Nat → Nat} : ∀ {n : Nat}, (∀ i, i < n → f i = g i) → sm f n = sm g n := by
  intro n
  induction n with
  | zero => intro _; rfl
  | succ n ih => intro h; rw [sm_s, sm_s, ih (fun i hi => h i (by omega)), h n (by omega)]
theorem sm_mono {f g : Nat → Nat} : ∀ {n : Nat}, (∀ i, i < n → f i ≤ g i) → sm f n ≤ sm g n := by
  intro n
  induction n with
  | zero => intro _; exact Nat.le_refl _
  | succ n ih =>
    intro h
    have h1 := ih (fun i hi => h i (by omega))
    have h2 := h n (by omega)
    rw [sm_s, sm_s]; omega
theorem sm_add {f g : Nat → Nat} : ∀ {n : Nat}, sm (fun i => f i + g i) n = sm f n + sm g n := by
  intro n
  induction n with
  | zero => rfl
  | succ n ih => rw [sm_s, sm_s, sm_s, ih]; omega
theorem sm_zero : ∀ {n : Nat}, sm (fun _ => 0) n = 0 := by
  intro n
  induction n with
  | zero => rfl
  | succ n ih => rw [sm_s, ih]
theorem sm_le_of {f : Nat → Nat} : ∀ {n i : Nat}, i ≤ n → sm f i ≤ sm f n := by
  intro n
  induction n with
  | zero => intro i h; rw [Nat.le_zero.mp h]; exact Nat.le_refl _
  | succ n ih =>
    intro i h
    by_cases q : i = n + 1
    · rw [q]; exact Nat.le_refl _
    · have := ih (i := i) (by omega)
      rw [sm_s]; omega
theorem sm_one {f : Nat → Nat} {n i : Nat} (hi : i < n) : f i ≤ sm f n := by
  have := sm_le_of (f := f) (show i + 1 ≤ n by omega)
  rw [sm_s] at this
  omega
theorem sm_upd {f g : Nat → Nat} {x c : Nat} (hx : f x = c + g x) (h : ∀ i, i ≠ x → f i = g i) : ∀ {n : Nat}, sm f n = sm g n + if x < n then c else 0 := by
  intro n
  induction n with
  | zero => rfl
  | succ n ih =>
    rw [sm_s, sm_s, ih]
    by_cases hn : n = x
    · subst hn
      rw [if_neg (Nat.lt_irrefl n), if_pos (Nat.lt_succ_self n), hx]; omega
    · rw [h n hn]
      by_cases hl : x < n
      · rw [if_pos hl, if_pos (by omega)]; omega
      · rw [if_neg hl, if_neg (by omega)]; omega
def lsum (w : Nat → Nat) (L : List Nat) : Nat := (L.map w).sum
theorem lsum_n (w : Nat → Nat) : lsum w [] = 0 := rfl
theorem lsum_c (w : Nat → Nat) (x : Nat) (L : List Nat) : lsum w (x :: L) = w x + lsum w L := by simp [lsum]
theorem lsum_a (w : Nat → Nat) (L M : List Nat) : lsum w (L ++ M) = lsum w L + lsum w M := by simp [lsum]
theorem lsum_congr {w v : Nat → Nat} {L : List Nat} (h : ∀ t ∈ L, w t = v t) : lsum w L = lsum v L := by
  unfold lsum
  rw [List.map_congr_left h]
theorem lsum_sm (w : Nat → Nat) (n : Nat) : ∀ (L : List Nat), L.Nodup → (∀ t ∈ L, t < n) → lsum w L = sm (fun t => if t ∈ L then w t else 0) n := by
  intro L
  induction L with
  | nil => intro _ _; simp only [List.not_mem_nil, if_false]; rw [sm_zero]; rfl
  | cons x L ih =>
    intro hn hl
    have hx := (List.nodup_cons.mp hn).1
    have h1 : (fun t => if t ∈ x :: L then w t else 0) x = w x + (fun t => if t ∈ L then w t else 0) x := by
      dsimp only; rw [if_pos List.mem_cons_self, if_neg hx]; rfl
    have h2 : ∀ i, i ≠ x → (fun t => if t ∈ x :: L then w t else 0) i = (fun t => if t ∈ L then w t else 0) i := by
      intro i hi
      dsimp only
      by_cases q : i ∈ L
      · rw [if_pos q, if_pos (List.mem_cons_of_mem _ q)]
      · rw [if_neg q, if_neg (fun z => (List.mem_cons.mp z).elim hi q)]
    have h3 := sm_upd (f := fun t => if t ∈ x :: L then w t else 0) (g := fun t => if t ∈ L then w t else 0) (x := x) (c := w x) h1 h2 (n := n)
    rw [if_pos (hl x List.mem_cons_self)] at h3
    rw [lsum_c, ih (List.nodup_cons.mp hn).2 (fun t ht => hl t (List.mem_cons_of_mem _ ht)), h3]; omega
theorem lsum_sub {w : Nat → Nat} {n : Nat} {L M : List Nat} (hL : L.Nodup) (hM : M.Nodup) (hl : ∀ t ∈ M, t < n) (h : ∀ t ∈ L, t ∈ M) : lsum w L ≤ lsum w M := by
  rw [lsum_sm w n L hL (fun t ht => hl t (h t ht)), lsum_sm w n M hM hl]
  refine sm_mono (fun i _ => ?_)
  by_cases q : i ∈ L
  · rw [if_pos q, if_pos (h i q)]; exact Nat.le_refl _
  · rw [if_neg q]; exact Nat.zero_le _
theorem lsum_1 (L : List Nat) : lsum (fun _ => 1) L = L.length := by
  induction L with
  | nil => rfl
  | cons x L ih => rw [lsum_c, ih, List.length_cons]; omega
/-! what all stores have -/
def hB (S : St) (k t : Nat) : Bool := decide (S (k + 1) t ≠ 0)
def hO (S : St) (k : Nat) : Option Nat → Bool
  | none => false
  | some t => hB S k t
theorem hO_s (S : St) (k t : Nat) : hO S k (some t) = hB S k t := rfl
theorem hB_t {S : St} {k t : Nat} : hB S k t = true ↔ S (k + 1) t ≠ 0 := by unfold hB; rw [decide_eq_true_iff]
theorem hB_f {S : St} {k t : Nat} : hB S k t = false ↔ S (k + 1) t = 0 := by unfold hB; rw [decide_eq_false_iff_not, Decidable.not_not]
theorem hB_eq {S T : St} {k : Nat} (h : ∀ j, T (k + 1) j = S (k + 1) j) (t : Nat) : hB T k t = hB S k t := by unfold hB; rw [h]
theorem s_has {S : St} {k d : Nat} (o : Option Nat) (ho : B80 o) : m_St_has k d S (oI o) = some (zb (hO S k o)) := by
  cases o with
  | none =>
    rw [oI_n]
    unfold m_St_has
    exact if_pos (by decide)
  | some t =>
    have ht := ho t rfl
    rw [oI_s]
    unfold m_St_has
    rw [if_neg (n_nneg (by omega)), if_neg (by rw [show (80 : Int32) = nI 80 from rfl, n_le (by omega) (by omega)]; omega), oi_t (n_in (by omega) (by omega)), n_cl (by omega), hO_s]
    by_cases h : S (k + 1) t = 0
    · rw [if_pos h, hB_f.mpr h]; rfl
    · rw [if_neg h, hB_t.mpr h]; rfl
theorem s_hasN {S : St} {k d : Nat} {t : Nat} (ht : t < 80) : m_St_has k d S (nI t) = some (zb (hB S k t)) := s_has (some t) (fun u hu => by cases hu; exact ht)
theorem b_s {t : Nat} (ht : t < 80) : B80 (some t) := fun u hu => by cases hu; exact ht
theorem s_wordsN {S : St} (h : GW S) {t : Nat} (ht : t < cN S) : m_Gr_wordsOf S (nI t) = some (nI (wN S t)) := by
  have := s_wordsOf h (some t) (b_s (Nat.lt_of_lt_of_le ht h.2.1))
  rw [wO_s, if_pos ht] at this
  exact this
theorem s_isThingN {S : St} (h : GW S) {t : Nat} (ht : t < cN S) : m_Gr_isThing S (nI t) = some 1 := by
  have := s_isThing h (some t) (b_s (Nat.lt_of_lt_of_le ht h.2.1))
  rw [isT_s, decide_eq_true ht] at this
  exact this
theorem wN_le {S : St} (h : GW S) {t : Nat} (ht : t < cN S) : wN S t ≤ 4 := by
  have := (h.2.2.1 t ht).2.1
  unfold wN; omega
theorem wN_pos (S : St) (t : Nat) : 0 < wN S t := Nat.succ_pos _
theorem wN_eq {S T : St} (e : GEq S T) : wN T = wN S := funext fun t => by unfold wN; rw [e.f]
def had1 (S : St) (k : Nat) : Nat → Nat := fun t => if hB S k t = true then 1 else 0
def hadW (S : St) (k : Nat) : Nat → Nat := fun t => if hB S k t = true then wN S t else 0
def hadU (S : St) (k : Nat) : Nat → Nat := fun t => if hB S k t = true ∧ t ∉ rcL S then 1 else 0
def hadR (S : St) (k : Nat) : Nat → Nat := fun t => if hB S k t = true ∧ t ∈ rcL S then wN S t else 0
theorem s_cH (k d : Nat) : ∀ (n i : Nat) (S : St), GW S → i ≤ cN S → cN S - i < n → m_St_countHad_L4 k d n S (nI (sm (had1 S k) i)) (nI i) = some (nI (sm (had1 S k) (cN S))) := by
  intro n
  induction n with
  | zero => intro i S _ h1 h2; omega
  | succ n ih =>
    intro i S hG h1 h2
    have h80 := hG.2.1
    rw [m_St_countHad_L4, hG.1]
    by_cases hi : cN S ≤ i
    · rw [if_pos (by rw [n_le (by omega) (by omega)]; exact hi), show i = cN S by omega]
    · rw [if_neg (by rw [n_le (by omega) (by omega)]; exact hi), o1_e (s_hasN (by omega)), nI_1]
      have := ih (i + 1) S hG (by omega) (by omega)
      rw [sm_s] at this
      by_cases h : hB S k i = true
      · rw [h, if_neg (by decide), nI_1]
        unfold had1 at this ⊢
        rw [if_pos h] at this; exact this
      · rw [Bool.eq_false_iff.mpr h, if_pos (show zb false = 0 from rfl), show (0 : Int32) = nI 0 from rfl, nI_add]
        unfold had1 at this ⊢
        rw [if_neg h] at this; exact this
theorem s_countHad (k d : Nat) {S : St} (hG : GW S) : m_St_countHad k d S = some (nI (sm (had1 S k) (cN S))) := by
  have h80 := hG.2.1
  unfold m_St_countHad
  rw [o1_e (show m_St_countHad_L4 k d 200 S 0 0 = _ from s_cH k d 200 0 S hG (Nat.zero_le _) (by omega))]
theorem s_wH (k d : Nat) : ∀ (n i : Nat) (S : St), GW S → i ≤ cN S → cN S - i < n → m_St_wordsHad_L4 k d n S (nI (sm (hadW S k) i)) (nI i) = some (nI (sm (hadW S k) (cN S))) := by
  intro n
  induction n with
  | zero => intro i S _ h1 h2; omega
  | succ n ih =>
    intro i S hG h1 h2
    have h80 := hG.2.1
    rw [m_St_wordsHad_L4, hG.1]
    by_cases hi : cN S ≤ i
    · rw [if_pos (by rw [n_le (by omega) (by omega)]; exact hi), show i = cN S by omega]
    · rw [if_neg (by rw [n_le (by omega) (by omega)]; exact hi), o1_e (s_hasN (by omega)), nI_1]
      have := ih (i + 1) S hG (by omega) (by omega)
      rw [sm_s] at this
      by_cases h : hB S k i = true
      · rw [h, if_neg (by decide), o1_e (s_wordsN hG (by omega)), nI_add]
        unfold hadW at this ⊢
        rw [if_pos h] at this; exact this
      · rw [Bool.eq_false_iff.mpr h, if_pos (show zb false = 0 from rfl), show (0 : Int32) = nI 0 from rfl, nI_add]
        unfold hadW at this ⊢
        rw [if_neg h] at this; exact this
theorem s_wordsHad (k d : Nat) {S : St} (hG : GW S) : m_St_wordsHad k d S = some (nI (sm (hadW S k) (cN S))) := by
  have h80 := hG.2.1
  unfold m_St_wordsHad
  rw [o1_e (show m_St_wordsHad_L4 k d 200 S 0 0 = _ from s_wH k d 200 0 S hG (Nat.zero_le _) (by omega))]
theorem s_cU (k d : Nat) : ∀ (n i : Nat) (S : St), GI S → i ≤ cN S → cN S - i < n → m_St_countUnreached_L4 k d n S (nI (sm (hadU S k) i)) (nI i) = some (nI (sm (hadU S k) (cN S))) := by
  intro n
  induction n with
  | zero => intro i S _ h1 h2; omega
  | succ n ih =>
    intro i S hG h1 h2
    have h80 := hG.1.2.1
    rw [m_St_countUnreached_L4, hG.1.1]
    by_cases hi : cN S ≤ i
    · rw [if_pos (by rw [n_le (by omega) (by omega)]; exact hi), show i = cN S by omega]
    · rw [if_neg (by rw [n_le (by omega) (by omega)]; exact hi), o1_e (s_hasN (by omega)), nI_1]
      have := ih (i + 1) S hG (by omega) (by omega)
      rw [sm_s] at this
      by_cases h : hB S k i = true
      · rw [h, if_neg (by decide), o1_e (s_isReached hG (by omega))]
        unfold hadU at this ⊢
        by_cases hr : i ∈ rcL S
        · rw [decide_eq_true hr, if_neg (by decide), show (0 : Int32) = nI 0 from rfl, nI_add]
          rw [if_neg (fun z => z.2 hr)] at this; exact this
        · rw [decide_eq_false hr, if_pos (show zb false = 0 from rfl), nI_1]
          rw [if_pos ⟨h, hr⟩] at this; exact this
      · rw [Bool.eq_false_iff.mpr h, if_pos (show zb false = 0 from rfl), show (0 : Int32) = nI 0 from rfl, nI_add]
        unfold hadU at this ⊢
        rw [if_neg (fun z => h z.1)] at this; exact this
theorem s_countUn (k d : Nat) {S : St} (hG : GI S) : m_St_countUnreached k d S = some (nI (sm (hadU S k) (cN S))) := by
  have h80 := hG.1.2.1
  unfold m_St_countUnreached
  rw [o1_e (show m_St_countUnreached_L4 k d 200 S 0 0 = _ from s_cU k d 200 0 S hG (Nat.zero_le _) (by omega))]
theorem s_wR (k d : Nat) : ∀ (n i : Nat) (S : St), GI S → i ≤ cN S → cN S - i < n → m_St_wordsReached_L4 k d n S (nI (sm (hadR S k) i)) (nI i) = some (nI (sm (hadR S k) (cN S))) := by
  intro n
  induction n with
  | zero => intro i S _ h1 h2; omega
  | succ n ih =>
    intro i S hG h1 h2
    have h80 := hG.1.2.1
    rw [m_St_wordsReached_L4, hG.1.1]
    by_cases hi : cN S ≤ i
    · rw [if_pos (by rw [n_le (by omega) (by omega)]; exact hi), show i = cN S by omega]
    · rw [if_neg (by rw [n_le (by omega) (by omega)]; exact hi), o1_e (s_hasN (by omega)), nI_1]
      have := ih (i + 1) S hG (by omega) (by omega)
      rw [sm_s] at this
      by_cases h : hB S k i = true
      · rw [h, if_neg (by decide), o1_e (s_isReached hG (by omega))]
        unfold hadR at this ⊢
        by_cases hr : i ∈ rcL S
        · rw [decide_eq_true hr, if_neg (by decide), o1_e (s_wordsN hG.1 (by omega)), nI_add]
          rw [if_pos ⟨h, hr⟩] at this; exact this
        · rw [decide_eq_false hr, if_pos (show zb false = 0 from rfl), show (0 : Int32) = nI 0 from rfl, nI_add]
          rw [if_neg (fun z => hr z.2)] at this; exact this
      · rw [Bool.eq_false_iff.mpr h, if_pos (show zb false = 0 from rfl), show (0 : Int32) = nI 0 from rfl, nI_add]
        unfold hadR at this ⊢
        rw [if_neg (fun z => h z.1)] at this; exact this
theorem s_wordsR (k d : Nat) {S : St} (hG : GI S) : m_St_wordsReached k d S = some (nI (sm (hadR S k) (cN S))) := by
  have h80 := hG.1.2.1
  unfold m_St_wordsReached
  rw [o1_e (show m_St_wordsReached_L4 k d 200 S 0 0 = _ from s_wR k d 200 0 S hG (Nat.zero_le _) (by omega))]
theorem s_put (k d : Nat) {S : St} (hG : GW S) {t : Nat} (ht : t < cN S) (v : Int32) : m_St_put k d S (nI t) v = some (u2 (u2 S (k + 1) t 1) (k + 2) t v) := by
  have h80 := hG.2.1
  unfold m_St_put
  rw [o1_e (s_isThingN hG ht), if_neg (by decide), oi_t (n_in (by omega) (by omega)), oi_t (n_in (by omega) (by omega)), n_cl (by omega)]
theorem s_letGo (k d : Nat) (S : St) {t : Nat} (ht : t < 80) : m_St_letGo k d S (nI t) = some (u2 S (k + 1) t 0) := by
  unfold m_St_letGo
  rw [if_neg (n_nneg (by omega)), if_neg (by rw [show (80 : Int32) = nI 80 from rfl, n_le (by omega) (by omega)]; omega), oi_t (n_in (by omega) (by omega)), n_cl (by omega)]
theorem s_letAll_L (k d : Nat) : ∀ (n i : Nat) (S : St), i ≤ 80 → 80 - i < n → ∃ T, m_St_letAllGo_L2 k d n S (nI i) = some T ∧ Fr (fun a _ => a = k + 1) S T ∧ (∀ j, j < 80 → i ≤ j → T (k + 1) j = 0) ∧ ∀ j, j < i → T (k + 1) j = S (k + 1) j := by
  intro n
  induction n with
  | zero => intro i S h1 h2; omega
  | succ n ih =>
    intro i S h1 h2
    rw [m_St_letAllGo_L2]
    by_cases hi : i = 80
    · subst hi
      exact ⟨S, if_pos (by decide), Fr.rfl', fun j h3 h4 => by omega, fun j _ => rfl⟩
    · rw [if_neg (by rw [show (80 : Int32) = nI 80 from rfl, n_le (by omega) (by omega)]; omega), oi_t (n_in (by omega) (by omega)), nI_1, n_cl (by omega)]
      obtain ⟨T, e, hF, h3, h4⟩ := ih (i + 1) (u2 S (k + 1) i 0) (by omega) (by omega)
      refine ⟨T, e, ((Fr.u2 S (k + 1) i 0).mono (fun a j h => h.1)).tr hF, fun j h5 h6 => ?_, fun j h5 => ?_⟩
      · by_cases hj : j = i
        · subst hj; rw [h4 j (by omega), u2_e]
        · exact h3 j h5 (by omega)
      · rw [h4 j (by omega), u2_n (by omega)]
theorem s_letAll (k d : Nat) (S : St) : ∃ T, m_St_letAllGo k d S = some T ∧ Fr (fun a _ => a = k + 1) S T ∧ ∀ t, t < 80 → hB T k t = false := by
  obtain ⟨T, e, F, h, -⟩ := s_letAll_L k d 200 0 S (by omega) (by omega)
  unfold m_St_letAllGo
  rw [o1_e (show m_St_letAllGo_L2 k d 200 S 0 = some T from e)]
  exact ⟨T, rfl, F, fun t ht => hB_f.mpr (h t ht (Nat.zero_le _))⟩
theorem s_placeOf (k d : Nat) (S : St) {t : Nat} (ht : t < 80) : m_St_placeOf k d S (nI t) = some (if hB S k t = true then S (k + 2) t else -1) := by
  unfold m_St_placeOf
  rw [o1_e (s_hasN ht)]
  by_cases h : hB S k t = true
  · rw [h, if_neg (by decide), oi_t (n_in (by omega) (by omega)), n_cl (by omega), if_pos rfl]
  · rw [Bool.eq_false_iff.mpr h, if_pos (show zb false = 0 from rfl), if_neg (by decide)]
def pl (S : St) (k t : Nat) : Nat := (S (k + 2) t).toNatClampNeg
/-- where the things of a store lie -/
def PO (S : St) (k M : Nat) : Prop := (∀ t, t < cN S → hB S k t = true → S (k + 2) t = nI (pl S k t) ∧ pl S k t + wN S t ≤ M) ∧
  ∀ t u, t < cN S → u < cN S → t ≠ u → hB S k t = true → hB S k u = true → pl S k t + wN S t ≤ pl S k u ∨ pl S k u + wN S u ≤ pl S k t
def HC (S : St) (k : Nat) : Prop := ∀ t, t < 80 → hB S k t = true → t < cN S
def RH (S : St) (k : Nat) : Prop := ∀ t, t ∈ rcL S → hB S k t = true
def WP (S : St) (k d W : Nat) : Prop := S k (d + 2) = nI W ∧ ∃ l, S k (d + 3) = nI l ∧ l ≤ W
