/-! the law: its small parts -/
theorem s_below (S : St) (x : Int32) {n : Nat} (h0 : 0 < n) (hn : n < 2147483648) : ∃ r, r < n ∧ m_Law_below S x (nI n) = some (nI r) := by
  obtain ⟨j, hj, e⟩ := pk_andE x (m := 2147483647) 31 (by decide)
  refine ⟨j % n, Nat.mod_lt _ h0, ?_⟩
  unfold m_Law_below
  rw [oi_t (nI_ne0 h0 hn), e, pk_rem hj h0 hn]
theorem s_cell (xs : Nat → Int32) {L k : Nat} (hL : L ≤ 260) (hk : k < 1000) : ∃ v, m_cell xs L (nI k) = some v := by
  unfold m_cell
  by_cases h : nI L ≤ nI k
  · rw [if_pos h]; exact ⟨_, rfl⟩
  · rw [if_neg h]
    have h2 : k < L := by
      have := (not_congr (n_le (a := L) (b := k) (by omega) (by omega))).mp h
      omega
    rw [oi_t (n_in h2 (by omega))]; exact ⟨_, rfl⟩
theorem s_S78 (S : St) (v : Int32) {n : Nat} (hn : n ≤ 80) : ∃ r, (n = 0 ∨ r < n) ∧ m_law_S78 S v (nI n) = some (nI r) := by
  unfold m_law_S78
  by_cases h : n = 0
  · subst h; rw [if_pos (show nI 0 = 0 from rfl)]; exact ⟨0, Or.inl rfl, rfl⟩
  · rw [if_neg (nI_ne0 (by omega) (by omega))]
    obtain ⟨r, hr, e⟩ := s_below S (v >>> ((3 : Int32) &&& 31)) (n := n) (by omega) (by omega)
    rw [o1_e e]; exact ⟨r, Or.inr hr, rfl⟩
theorem s_S98 (S : St) (v : Int32) {n : Nat} (hn : n ≤ 80) : ∃ r, (n = 0 ∨ r < n) ∧ m_law_S98 S v (nI n) = some (nI r) := by
  unfold m_law_S98
  by_cases h : n = 0
  · subst h; rw [if_pos (show nI 0 = 0 from rfl)]; exact ⟨0, Or.inl rfl, rfl⟩
  · rw [if_neg (nI_ne0 (by omega) (by omega))]
    obtain ⟨r, hr, e⟩ := s_below S (v >>> ((5 : Int32) &&& 31)) (n := n) (by omega) (by omega)
    rw [o1_e e]; exact ⟨r, Or.inr hr, rfl⟩
theorem s_S307 {S : St} {s : Nat} (hs : s < 4) : m_law_S307 S (nI s) = some (if S (kS s) (dS s + 5) = 0 then 0 else 1, S) := by
  unfold m_law_S307
  rw [ob_e (s_told7 hs)]
  by_cases h : S (kS s) (dS s + 5) = 0
  · rw [if_pos h, if_neg (by decide)]
  · rw [if_neg h, if_pos rfl]
theorem s_S360 {S : St} (hG : GI S) {t : Nat} (ht : t < cN S) : m_law_S360 S (nI t) = some (zb (decide (t ∈ rcL S))) := by
  unfold m_law_S360
  rw [o1_e (s_of1 hG ht)]
  by_cases h : t ∈ rcL S
  · rw [show decide (t ∈ rcL S) = true from decide_eq_true h, if_pos (by decide)]; rfl
  · rw [show decide (t ∈ rcL S) = false from decide_eq_false h, if_neg (by decide)]; rfl
theorem s_S414 (S : St) (v : Nat) (b : Bool) : m_law_S414 S (nI v) (zb b) = some (nI (v + if b = true then 0 else 1)) := by
  unfold m_law_S414
  cases b
  · rw [if_pos (by decide), nI_1]; rfl
  · rw [if_neg (by decide)]
    rw [show (0 : Int32) = nI 0 from rfl, nI_add]; rfl
theorem s_L432 {S : St} (hG : GI S) {M t q : Nat} (hM : M < 1000) (ht : t < cN S) (hq : q + wN S t ≤ M) : ∀ (n j v : Nat) (w : Nat → Int32), j ≤ wN S t → wN S t - j < n → (∀ x, q + j ≤ x → x < q + wN S t → w x = 0) →
    ∃ w2, m_law_L432 n S (nI M) (nI v) (nI t) (nI q) (nI j) w = some (nI (v + (wN S t - j)), w2) ∧ (∀ x, (x < q + j ∨ q + wN S t ≤ x) → w2 x = w x) ∧ ∀ x, q + j ≤ x → x < q + wN S t → w2 x = 1 := by
  intro n
  have hf : fN S t ≤ 3 := (hG.1.2.2.1 t ht).2.1
  have hw : wN S t = fN S t + 1 := rfl
  induction n with
  | zero => intro j v w hj hn; omega
  | succ n ih =>
    intro j v w hj hn hz
    show ∃ w2, (o1 (m_Te_ofThing S (nI t) (0 : Int32)) fun r1 => _) = _ ∧ _
    rw [o1_e (s_of0 hG.1 ht)]
    by_cases h : fN S t < j
    · rw [if_pos ((n_lt (by omega) (by omega)).mpr h)]
      refine ⟨w, ?_, fun _ _ => rfl, fun x h1 h2 => by omega⟩
      rw [show wN S t - j = 0 by omega]; rfl
    · rw [if_neg ((not_congr (n_lt (by omega) (by omega))).mpr h), nI_add, if_neg ((not_congr (n_le (by omega) (by omega))).mpr (by omega))]
      have hin : qin (nI (q + j)) (nI M).toNatClampNeg := by
        rw [n_cl (show M < 2147483648 by omega)]; exact n_in (by omega) (by omega)
      rw [oi_t hin]
      simp only [n_cl (show q + j < 2147483648 by omega)]
      rw [if_pos (hz (q + j) (Nat.le_refl _) (by omega)), oi_t hin, nI_1 v, nI_1 j]
      obtain ⟨w2, e, k1, k2⟩ := ih (j + 1) (v + 1) (upd w (q + j) 1) (by omega) (by omega) (fun x h1 h2 => by rw [pk_un (by omega)]; exact hz x (by omega) h2)
      refine ⟨w2, ?_, fun x hx => ?_, fun x h1 h2 => ?_⟩
      · rw [e, show v + 1 + (wN S t - (j + 1)) = v + (wN S t - j) by omega]
      · rw [k1 x (by omega), pk_un (by omega)]
      · by_cases hx : x = q + j
        · subst hx; rw [k1 _ (by omega), pk_us]
        · exact k2 x (by omega) h2
