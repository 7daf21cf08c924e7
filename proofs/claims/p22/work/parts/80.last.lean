/-! the law's last part -/
def WBx (S : St) (M s lo hi go wk W : Nat) : Prop := ∀ T, WE lo hi S T → (∃ T', m_Te_wouldGo T (nI s) = some (nI go, T') ∧ Fr scr T T') ∧ (∃ T', m_Te_wouldWork T (nI s) = some (nI wk, T') ∧ Fr scr T T') ∧
  ∃ T', m_Te_collect T (nI s) = some (nI go, T') ∧ Fr (fun a _ => lo ≤ a ∧ a < hi) T T' ∧ COL T T' (kS s) (dS s) go W wk ∧ (s < 2 → sm (hadU T' (kS s)) (cN T') = 0) ∧
    (s = 2 → MaI T' M ∧ (∃ A' W', PS T' 31 1 A' W' ∧ W' ≤ W + 400) ∧ (T' 31 6 ≠ 0 ∨ T' 31 10 = 0) ∧ (T 31 6 ≠ 0 ∨ T 31 10 = 0 → sm (hadU T' 31) (cN T') = 0))
def kE (s : Nat) : Nat := if s = 0 then 18 else if s = 1 then 31 else if s = 2 then 42 else 58
theorem w_all {S : St} {M s : Nat} {A W : Nat → Nat} (hI : INV S M) (hM : M < 160) (hP : P4 S A W) (hW : ∀ s, W s ≤ 1000000000) (hs : s < 4) : ∃ go wk, WBx S M s (kS s) (kE s) go wk (W s) := by
  obtain ⟨hG, hC, hN, hMa, hU⟩ := hI
  obtain ⟨p0, p1, p2, p3⟩ := hP
  have h : s = 0 ∨ s = 1 ∨ s = 2 ∨ s = 3 := by omega
  rcases h with rfl | rfl | rfl | rfl
  · obtain ⟨go, wk, h⟩ := w_co hC hM p0 (hW 0)
    refine ⟨go, wk, fun T hE => ?_⟩
    obtain ⟨a, b, T', c, d, e, f⟩ := h T hE
    exact ⟨⟨T, a, Fr.rfl'⟩, ⟨T, b, Fr.rfl'⟩, T', c, d, e, fun _ => f, fun q => by omega⟩
  · obtain ⟨go, wk, h⟩ := w_nu hN hM p1 (hW 1)
    refine ⟨go, wk, fun T hE => ?_⟩
    obtain ⟨a, b, T', c, d, e, f⟩ := h T hE
    exact ⟨⟨T, a, Fr.rfl'⟩, ⟨T, b, Fr.rfl'⟩, T', c, d, e, fun _ => f, fun q => by omega⟩
  · obtain ⟨go, wk, hk, h⟩ := w_ma hG hMa hM p2 (hW 2)
    refine ⟨go, wk, fun T hE => ?_⟩
    obtain ⟨a, b, T', c, d, e, f, g, i, j⟩ := h T hE
    exact ⟨a, b, T', c, d, e, fun q => by omega, fun _ => ⟨f, ⟨_, _, g, by omega⟩, i, j⟩⟩
  · obtain ⟨go, wk, h⟩ := w_cu hG hU p3 (hW 3)
    refine ⟨go, wk, fun T hE => ?_⟩
    obtain ⟨a, b, T', c, d, e⟩ := h T hE
    exact ⟨a, b, T', c, d, e, fun q => by omega, fun q => by omega⟩
theorem s_L813 {S : St} {M : Nat} {go wk W : Nat → Nat} (hG : GI S) (h : ∀ s, s < 4 → WBx S M s (kS s) (kE s) (go s) (wk s) (W s)) : ∀ (n i : Nat) (T : St) (w6 w7 : Nat → Int32), i ≤ 4 → 4 - i < n → Fr scr S T →
    ∃ g1 g2 T', m_law_L813 n T (nI i) w6 w7 = some (g1, g2, T') ∧ Fr scr S T' ∧ (∀ s, i ≤ s → s < 4 → g1 s = nI (go s) ∧ g2 s = nI (wk s)) ∧ ∀ s, s < i → g1 s = w6 s ∧ g2 s = w7 s := by
  intro n
  induction n with
  | zero => intro i T w6 w7 hi hn; omega
  | succ n ih =>
    intro i T w6 w7 hi hn F
    show ∃ g1 g2 T', (if nI 4 ≤ nI i then _ else _) = _ ∧ _
    by_cases h4 : 4 ≤ i
    · rw [if_pos ((n_le (by omega) (by omega)).mpr h4)]
      exact ⟨w6, w7, T, rfl, F, fun s h1 h2 => by omega, fun _ _ => ⟨rfl, rfl⟩⟩
    · rw [if_neg ((not_congr (n_le (by omega) (by omega))).mpr h4)]
      have hi4 : i < 4 := by omega
      obtain ⟨T1, e1, F1⟩ := (h i hi4 T (we_x _ _ hG F)).1
      obtain ⟨T2, e2, F2⟩ := (h i hi4 T1 (we_x _ _ hG (F.tr F1))).2.1
      have hq : qin (nI i) 4 := n_in hi4 (by omega)
      rw [ob_e e1, oi_t hq, ob_e e2, oi_t hq, nI_1 i]
      simp only [n_cl (show i < 2147483648 by omega)]
      obtain ⟨g1, g2, T', e, F', k1, k2⟩ := ih (i + 1) T2 (upd w6 i (nI (go i))) (upd w7 i (nI (wk i))) (by omega) (by omega) ((F.tr F1).tr F2)
      refine ⟨g1, g2, T', e, F', fun s h1 h2 => ?_, fun s h1 => ?_⟩
      · by_cases hs : s = i
        · subst hs
          obtain ⟨a, b⟩ := k2 s (by omega)
          rw [a, b, pk_us, pk_us]
          exact ⟨rfl, rfl⟩
        · exact k1 s (by omega) h2
      · obtain ⟨a, b⟩ := k2 s (by omega)
        rw [a, b, pk_un (by omega), pk_un (by omega)]
        exact ⟨rfl, rfl⟩
theorem s_S928 {T : St} (hG : GI T) {s u go : Nat} (hs : s < 4) {w : Nat → Int32} (hw : w s = nI go) (hgo : go ≤ u) (hu : u < 1000) (h1 : T (kS s) (dS s + 5) ≠ 0 → sm (hadU T (kS s)) (cN T) = 0) (h2 : T (kS s) (dS s + 5) = 0 → sm (hadU T (kS s)) (cN T) + go = u)
    (h3 : s < 2 → sm (hadU T (kS s)) (cN T) = 0) : m_law_S928 T (nI s) (nI u) w = some T := by
  have hq : qin (nI s) 4 := n_in hs (by omega)
  have rest : ∀ r : Int32, r = nI (sm (hadU T (kS s)) (cN T)) → (if (if T (kS s) (dS s + 5) = 0 then (0 : Int32) else 1) = (1 : Int32) then (if r = (0 : Int32) then some T else none) else oi (qin (nI s) 4) <| if r = (nI u - (w (nI s).toNatClampNeg)) then some T else none) = some T := fun r hr => by
    by_cases z : T (kS s) (dS s + 5) = 0
    · rw [if_pos z, if_neg (by decide), oi_t hq]
      simp only [n_cl (show s < 2147483648 by omega), hw]
      have := h2 z
      rw [pk_sub hgo, if_pos (by rw [hr]; congr 1; omega)]
    · rw [if_neg z, if_pos rfl, hr, h1 z, if_pos (show nI 0 = (0 : Int32) from rfl)]
  unfold m_law_S928
  by_cases h : 2 ≤ s
  · rw [if_pos (show (2 : Int32) ≤ nI s from (n_le (a := 2) (by omega) (by omega)).mpr h), ob_e (s_told2 hG hs), ob_e (s_told7 hs)]
    exact rest _ rfl
  · rw [if_neg (show ¬ (2 : Int32) ≤ nI s from (not_congr (n_le (a := 2) (by omega) (by omega))).mpr h), ob_e (s_told2 hG hs), if_pos (by rw [h3 (by omega)]; rfl), ob_e (s_told2 hG hs), ob_e (s_told7 hs)]
    exact rest _ rfl
def E2 (X : St) (M : Nat) : Prop := MaI X M ∧ (∃ A' W', PS X 31 1 A' W' ∧ W' ≤ 500000) ∧ (X 31 6 ≠ 0 ∨ X 31 10 = 0)
theorem s_L862 {S : St} {M : Nat} {A W go wk : Nat → Nat} {w6 w7 : Nat → Int32} (hP : P4 S A W) (hW : ∀ s, W s ≤ 200000) (h : ∀ s, s < 4 → WBx S M s (kS s) (kE s) (go s) (wk s) (W s)) (hw : ∀ s, s < 4 → w6 s = nI (go s) ∧ w7 s = nI (wk s)) :
    ∀ (n i : Nat) (X : St), i ≤ 4 → 4 - i < n → GI X → (∀ s, i ≤ s → s < 4 → WE (kS s) (kE s) S X) → (2 < i → E2 X M) → ∃ X', m_law_L862 n X (nI i) w6 w7 = some X' ∧ GI X' ∧ E2 X' M := by
  intro n
  induction n with
  | zero => intro i X hi hn; omega
  | succ n ih =>
    intro i X hi hn hG hE h2
    show ∃ X', (if nI 4 ≤ nI i then _ else _) = _ ∧ _
    by_cases h4 : 4 ≤ i
    · rw [if_pos ((n_le (by omega) (by omega)).mpr h4)]
      exact ⟨X, rfl, hG, h2 (by omega)⟩
    · rw [if_neg ((not_congr (n_le (by omega) (by omega))).mpr h4)]
      have hi4 : i < 4 := by omega
      have hEi := hE i (Nat.le_refl _) hi4
      obtain ⟨-, -, T', e, F, ⟨c1, c2, c3, c4⟩, c5, c6⟩ := h i hi4 X hEi
      have hq : qin (nI i) 4 := n_in hi4 (by omega)
      have hk : 12 ≤ kS i ∧ kE i ≤ 58 ∧ dS i ≤ 1 ∧ kS i < kE i := by
        have h : i = 0 ∨ i = 1 ∨ i = 2 ∨ i = 3 := by omega
        rcases h with rfl | rfl | rfl | rfl <;> decide
      have g : GEq X T' := GEq.of F (fun a j q => by omega)
      have hGT : GI T' := hG.eq g (fun j => F _ _ (by omega))
      have hnk : ∀ j, ¬ scr (kS i) j := fun j => nscr (by
        have h : i = 0 ∨ i = 1 ∨ i = 2 ∨ i = 3 := by omega
        rcases h with rfl | rfl | rfl | rfl <;> decide)
      have t3 := s_told3 hG hi4
      rw [hEi.2.2 (kS i) (dS i + 2) (Nat.le_refl _) hk.2.2.2 (hnk _), (hP.at hi4).1] at t3
      have t3' := s_told3 hGT hi4
      rw [c1] at t3'
      have hu := hdU_le hG.1 (kS i)
      have hwi := hw i hi4
      rw [ob_e (s_told2 hG hi4), ob_e t3, ob_e e, oi_t hq]
      simp only [n_cl (show i < 2147483648 by omega), hwi.1, hwi.2]
      rw [if_pos trivial, ob_e t3', oi_t hq, if_pos (nI_add _ _).symm, oi_t hq, if_neg ((not_congr (n_lt (by omega) (by omega))).mpr (by omega)), o1_e (s_S928 hGT hi4 hwi.1 c2 (by omega) c3 c4 c5), nI_1 i]
      refine ih (i + 1) T' (by omega) (by omega) hGT (fun s h1 h3 => ?_) (fun hi2 => ?_)
      · obtain ⟨k1, k2, k3⟩ := hE s (by omega) h3
        refine ⟨hGT, k2.trans g, fun a j q1 q2 q3 => ?_⟩
        rw [F a j (by
          have h : i = 0 ∨ i = 1 ∨ i = 2 := by omega
          have h' : s = 1 ∨ s = 2 ∨ s = 3 := by omega
          have v1 : kE 0 = 18 := by decide
          have v2 : kE 1 = 31 := by decide
          have v3 : kE 2 = 42 := by decide
          have v4 : kS 1 = 18 := by decide
          have v5 : kS 2 = 31 := by decide
          have v6 : kS 3 = 42 := by decide
          rcases h with rfl | rfl | rfl <;> rcases h' with rfl | rfl | rfl <;> omega)]
        exact k3 a j q1 q2 q3
      · by_cases hi3 : i = 2
        · subst hi3
          obtain ⟨d1, ⟨A', W', d2, d3⟩, d4, -⟩ := c6 rfl
          exact ⟨d1, ⟨A', W', d2, by have := hW 2; omega⟩, d4⟩
        · have : i = 3 := by omega
          subst this
          obtain ⟨d1, ⟨A', W', d2, d3⟩, d4⟩ := h2 (by omega)
          have v6 : kS 3 = 42 := by decide
          have hF : ∀ a j, a < 42 → T' a j = X a j := fun a j q => F a j (by omega)
          exact ⟨ma_fr d1 g (fun a j q1 q2 q3 => hF a j q2), ⟨A', W', d2.fr (hF _ _ (by omega)) (hF _ _ (by omega)), d3⟩, by rw [hF 31 6 (by omega), hF 31 10 (by omega)]; exact d4⟩
theorem lg_self (d : Int64) : lg_cmp d d = 0 := by
  unfold lg_cmp
  rw [if_neg (show ¬ d > d from Int64.lt_irrefl), if_pos rfl]
theorem law_pure : ∀ (xs : Nat → Int32) (L : Nat), L ≤ 260 → m_law xs L S_init = some () := by
  intro xs L hL
  obtain ⟨v, ev⟩ := s_cell xs hL (show 0 < 1000 by omega)
  obtain ⟨r, hr, er⟩ := s_below S_init v (n := 60) (by omega) (by omega)
  obtain ⟨T, e1, hI, hc, hP⟩ := s_begin_call S_init (M := 40 + r) (by omega) (by omega)
  obtain ⟨S2, A, W, e2, hI2, hP2, hW2⟩ := s_L41 xs hL (M := 40 + r) (by omega) (by omega) 50 0 T _ _ (fun _ => 0) (by omega) (by omega) hI (by omega) hP (fun s => Nat.zero_le _) (fun s _ => rfl)
  have hW2' : ∀ s, W s ≤ 1000000000 := fun s => by have := hW2 s; omega
  obtain ⟨d, hd⟩ := dg_digest hI2 (show 40 + r < 160 by omega) hP2 hW2'
  obtain ⟨S3, e3, F3⟩ := hd S2 Fr.rfl'
  have hex : ∀ s, ∃ go wk, s < 4 → WBx S2 (40 + r) s (kS s) (kE s) go wk (W s) := fun s => by
    by_cases hs : s < 4
    · obtain ⟨go, wk, h⟩ := w_all hI2 (show 40 + r < 160 by omega) hP2 hW2' hs
      exact ⟨go, wk, fun _ => h⟩
    · exact ⟨0, 0, fun q => absurd q hs⟩
  have hgo : ∃ go wk : Nat → Nat, ∀ s, s < 4 → WBx S2 (40 + r) s (kS s) (kE s) (go s) (wk s) (W s) :=
    ⟨fun s => Classical.choose (hex s), fun s => Classical.choose (Classical.choose_spec (hex s)), fun s hs => Classical.choose_spec (Classical.choose_spec (hex s)) hs⟩
  obtain ⟨go, wk, hb⟩ := hgo
  obtain ⟨g1, g2, S4, e4, F4, k1, -⟩ := s_L813 hI2.1 hb 200 0 S3 (fun _ => 0) (fun _ => 0) (by omega) (by omega) F3
  obtain ⟨S5, e5, F5⟩ := hd S4 F4
  obtain ⟨S6, e6, hG6, hE6⟩ := s_L862 hP2 hW2 hb (fun s hs => k1 s (Nat.zero_le _) hs) 200 0 S5 (by omega) (by omega) (x_gi F5 hI2.1) (fun s _ _ => we_x _ _ hI2.1 F5) (fun q => by omega)
  obtain ⟨d1, ⟨A', W', d2, d3⟩, d4⟩ := hE6
  obtain ⟨go', wk', _, h2⟩ := w_ma hG6 d1 (show 40 + r < 160 by omega) d2 (by omega)
  obtain ⟨-, -, S7, e7, F7, c1, -, -, -, c2⟩ := h2 S6 ⟨hG6, GEq.rfl', fun _ _ _ _ _ => rfl⟩
  have hG7 : GI S7 := hG6.eq (GEq.of F7 (fun a j q => by omega)) (fun j => F7 _ _ (by omega))
  have hu6 := hdU_le hG6.1 31
  have hgo' : go' ≤ 80 := Nat.le_trans c1.2.1 hu6
  have t2 := s_told2 hG7 (s := 2) (by omega)
  rw [show sm (hadU S7 (kS 2)) (cN S7) = 0 from c2 d4] at t2
  unfold m_law
  rw [o1_e (show m_cell xs L 0 = some v from ev), o1_e (show m_Law_below S_init v 60 = some (nI r) from er), show (40 : Int32) = nI 40 from rfl, nI_add, ob_e e1, if_pos (by decide)]
  rw [o1_e (show m_law_L41 xs L 50 T (nI (40 + r)) 0 (fun _ => 0) = some S2 from e2), ob_e e3, oc_e (show m_law_L813 200 S3 0 (fun _ => 0) (fun _ => 0) = some (g1, g2, S4) from e4), ob_e e5, lg_self, if_pos rfl]
  rw [o1_e (show m_law_L862 200 S5 0 g1 g2 = some S6 from e6), ob_e (show m_Te_collect S6 2 = some (nI go', S7) from e7), if_neg (n_nneg (show go' < 2147483648 by omega)), ob_e (show m_Te_told S7 2 2 = some (nI 0, S7) from t2), if_pos (show nI 0 = (0 : Int32) from rfl)]
