/-! pauses, and the stores are told -/
theorem MaB.fr {S T : St} {M : Nat} (h : MaB S M) (g : GEq S T) (h2 : T 31 2 = S 31 2) (h6 : T 31 6 = S 31 6) (h32 : ∀ j, T 32 j = S 32 j) (h33 : ∀ j, T 33 j = S 33 j) : MaB T M := by
  have b : ∀ t, hB T 31 t = hB S 31 t := fun t => hB_eq h32 t
  exact ⟨h2.trans h.1, fun t ht hh => by rw [g.c]; rw [b] at hh; exact h.2.1 t ht hh, h.2.2.1.sub g (fun t _ hh => b t ▸ hh) h33, fun q t ht => by rw [b]; rw [h6] at q; exact h.2.2.2 q t ht⟩
theorem MaI.fr {S T : St} {M : Nat} (h : MaI S M) (e : MEq S T) (h2 : T 31 2 = S 31 2) (h6 : T 31 6 = S 31 6) (h33 : ∀ j, T 33 j = S 33 j) : MaI T M :=
  ⟨h.1.fr e.1 h2 h6 e.2.1 h33, fun q => (h.2 (h6 ▸ q)).eq e⟩
theorem CE.eq {S T : St} {q : Nat → Nat} (h : CE S q) (e : SEq S T) : CE T q := fun t ht hh => by
  rw [e.1.c] at ht; rw [e.hb] at hh; rw [nf_eq e.1 e.hb, nr_eq e.1, e.2.2.1]; exact h t ht hh
theorem CP.eq {S T : St} {q : Nat → Nat} (h : CP S q) (e : SEq S T) : CP T q := fun t ht hh => by
  rw [e.1.c] at ht; rw [e.hb] at hh; rw [nf_eq e.1 e.hb, nr_eq e.1]; exact h t ht hh
theorem CL.eq {S T : St} (h : CL S) (e : SEq S T) : CL T :=
  ⟨fun u t hu hh hk => by rw [e.1.c] at hu; rw [e.hb] at hh ⊢; rw [kids_eq e.1] at hk; exact h.1 u t hu hh hk, fun r t hr h1 => by rw [e.1.r] at h1; rw [e.hb]; exact h.2.1 r t hr h1, fun t ht hh => by rw [e.1.c]; rw [e.hb] at hh; exact h.2.2 t ht hh⟩
theorem CN.eq {S T : St} {b o : Option Nat} (h : CN S b o) (e : SEq S T) : CN T b o :=
  ⟨fun t ht hh => by rw [e.1.c] at ht; rw [e.hb] at hh; rw [nf_eq e.1 e.hb, nr_eq e.1, e.2.2.1]; exact h.1 t ht hh, h.2.1.eq e, h.2.2.eq e⟩
theorem CuB.fr {S T : St} {M : Nat} (h : CuB S M) (g : GEq S T) (h2 : T 42 2 = S 42 2) (h6 : T 42 6 = S 42 6) (h43 : ∀ j, T 43 j = S 43 j) (h44 : ∀ j, T 44 j = S 44 j) : CuB T M := by
  have b : ∀ t, hB T 42 t = hB S 42 t := fun t => hB_eq h43 t
  exact ⟨h2.trans h.1, fun t ht hh => by rw [g.c]; rw [b] at hh; exact h.2.1 t ht hh, h.2.2.1.sub g (fun t _ hh => b t ▸ hh) h44, fun q t ht => by rw [b]; rw [h6] at q; exact h.2.2.2 q t ht⟩
theorem CuI.fr {S T : St} {M : Nat} (h : CuI S M) (e : SEq S T) (h2 : T 42 2 = S 42 2) (h6 : T 42 6 = S 42 6) (h44 : ∀ j, T 44 j = S 44 j) : CuI T M :=
  ⟨h.1.fr e.1 h2 h6 e.2.1 h44, fun q => by
    obtain ⟨a, b, c⟩ := h.2 (h6 ▸ q)
    exact ⟨a.eq e, b.eq e, c.eq e⟩⟩
def tlU (a1 a2 a3 : Int32) (S : St) : Option St := if (S 42 6) = (0 : Int32) then o1 (m_Cou_learnNaming S a1 a2 a3) fun X => some X else some S
def tlM (a1 a2 a3 : Int32) (S : St) : Option St := if (S 31 6) = (0 : Int32) then o1 (m_Mar_learnNaming S a1 a2 a3) fun X => tlU a1 a2 a3 X else tlU a1 a2 a3 S
theorem tell_e (S : St) (a1 a2 a3 : Int32) : m_Te_tellStores S a1 a2 a3 = tlM a1 a2 a3 S := by
  unfold m_Te_tellStores
  by_cases h1 : S 12 5 = 0
  · rw [if_pos h1]
    by_cases h2 : S 18 5 = 0
    · show (if S 18 5 = 0 then tlM a1 a2 a3 S else tlM a1 a2 a3 S) = _
      rw [if_pos h2]
    · show (if S 18 5 = 0 then tlM a1 a2 a3 S else tlM a1 a2 a3 S) = _
      rw [if_neg h2]
  · rw [if_neg h1]
    by_cases h2 : S 18 5 = 0
    · show (if S 18 5 = 0 then tlM a1 a2 a3 S else tlM a1 a2 a3 S) = _
      rw [if_pos h2]
    · show (if S 18 5 = 0 then tlM a1 a2 a3 S else tlM a1 a2 a3 S) = _
      rw [if_neg h2]
theorem s_tell {S : St} {M W : Nat} (hG : GW S) (a1 : Int32) (b o : Option Nat) (hb : ∀ t, b = some t → t < cN S) (ho : ∀ t, o = some t → t < cN S) (hMB : MaB S M) (hML : S 31 6 = 0 → ∃ T, m_Mar_learnNaming S a1 (oI b) (oI o) = some T ∧ Fr fG S T ∧ MaG T)
    (hCB : CuB S M) (hCN : S 42 6 = 0 → CN S b o) (hW : S 42 3 = nI W) :
    ∃ T, m_Te_tellStores S a1 (oI b) (oI o) = some T ∧ Fr (fun a j => fG a j ∨ fL a j) S T ∧ MaI T M ∧ CuI T M ∧ ∃ W', T 42 3 = nI W' ∧ W ≤ W' ∧ W' ≤ W + 242 := by
  have second : ∀ U : St, GEq S U → Fr fG S U → MaI U M → ∃ T, tlU a1 (oI b) (oI o) U = some T ∧ Fr (fun a j => fG a j ∨ fL a j) S T ∧ MaI T M ∧ CuI T M ∧ ∃ W', T 42 3 = nI W' ∧ W ≤ W' ∧ W' ≤ W + 242 := by
    intro U g F hMU
    have s : SEq S U := SEq.of F (fun a j q => by unfold fG rowP at q; omega)
    have u6 : U 42 6 = S 42 6 := F 42 6 (by unfold fG rowP; omega)
    have hCBU : CuB U M := hCB.fr g (F 42 2 (by unfold fG rowP; omega)) u6 s.2.1 (fun j => F _ _ (by unfold fG rowP; omega))
    have wU : U 42 3 = nI W := (F 42 3 (by unfold fG rowP; omega)).trans hW
    unfold tlU
    by_cases q : U 42 6 = 0
    · obtain ⟨T, e, F2, E2, P2, C2, B2, W2, v1, v2, v3⟩ := s_couLearn (hG.eq g) a1 b o (fun t h => by rw [g.c]; exact hb t h) (fun t h => by rw [g.c]; exact ho t h) ((hCN (u6 ▸ q)).eq s) wU
      have g2 := geq_L F2
      have m2 : MEq U T := MEq.of F2 (fun a j q => by unfold fL rowP at q; omega)
      rw [if_pos q, o1_e e]
      have t6 : T 42 6 = 0 := (F2 42 6 (by unfold fL rowP; omega)).trans q
      refine ⟨T, rfl, (F.mono (fun a j q => Or.inl q)).tr (F2.mono (fun a j q => Or.inr q)), hMU.fr m2 (F2 31 2 (by unfold fL rowP; omega)) (F2 31 6 (by unfold fL rowP; omega)) (fun j => F2 _ _ (by unfold fL rowP; omega)), ⟨⟨(F2 42 2 (by unfold fL rowP; omega)).trans hCBU.1, C2.2.2, hCBU.2.2.1.sub g2 (fun t _ hh => B2 t hh) (fun j => F2 _ _ (by unfold fL rowP; omega)), fun z => absurd t6 z⟩, fun _ => ⟨E2, P2, C2⟩⟩, W2, v1, v2, v3⟩
    · rw [if_neg q]
      exact ⟨U, rfl, F.mono (fun a j q => Or.inl q), hMU, ⟨hCBU, fun z => absurd z q⟩, W, wU, Nat.le_refl _, by omega⟩
  rw [tell_e]
  unfold tlM
  by_cases q : S 31 6 = 0
  · obtain ⟨U, e, F, hMG⟩ := hML q
    have g := geq_G F
    rw [if_pos q, o1_e e]
    exact second U g F ⟨hMB.fr g (F 31 2 (by unfold fG rowP; omega)) (F 31 6 (by unfold fG rowP; omega)) (fun j => F _ _ (by unfold fG rowP; omega)) (fun j => F _ _ (by unfold fG rowP; omega)), fun _ => hMG⟩
  · rw [if_neg q]
    exact second S GEq.rfl' Fr.rfl' ⟨hMB, fun z => absurd z q⟩
/-- work and pauses: since work was W0 -/
def PS (S : St) (k d W0 W : Nat) : Prop := S k (d + 2) = nI W ∧ W0 ≤ W ∧ ∃ l, S k (d + 3) = nI l ∧ l ≤ W ∧ W ≤ W0 + l
/-- while a pause is open -/
def PO1 (S : St) (k d W0 W : Nat) : Prop := S k (d + 2) = nI W ∧ W0 ≤ W ∧ S k (d + 6) = nI W0 ∧ ∃ l, S k (d + 3) = nI l ∧ l ≤ W0
theorem s_open {S : St} {k d A W : Nat} (h : PS S k d A W) : ∃ T, m_St_openPause k d S = some T ∧ Fr (fun a j => a = k ∧ j = d + 6) S T ∧ PO1 T k d W W := by
  obtain ⟨h1, h2, l, h3, h4, h5⟩ := h
  unfold m_St_openPause
  refine ⟨_, rfl, Fr.u2 _ _ _ _, by rw [u2_n (by omega)]; exact h1, Nat.le_refl _, by rw [u2_e]; exact h1, l, by rw [u2_n (by omega)]; exact h3, h4⟩
theorem s_close {S : St} {k d A W : Nat} (h : PO1 S k d A W) (hW : W < 2000000000) : ∃ T, m_St_closePause k d S = some T ∧ Fr (fun a j => a = k ∧ j = d + 3) S T ∧ PS T k d A W := by
  obtain ⟨h1, h2, h3, l, h4, h5⟩ := h
  unfold m_St_closePause
  rw [h1, h3, h4, pk_sub h2]
  refine ⟨_, rfl, Fr.u2 _ _ _ _, by rw [u2_n (by omega)]; exact h1, h2, ?_⟩
  by_cases q : l < W - A
  · exact ⟨W - A, by rw [u2_e, if_pos (by rw [n_lt (by omega) (by omega)]; exact q)], by omega, by omega⟩
  · exact ⟨l, by rw [u2_e, if_neg (by rw [n_lt (by omega) (by omega)]; exact q)], by omega, by omega⟩
theorem PS.self {S : St} {k d A W : Nat} (h : PS S k d A W) : PS S k d W W := by
  obtain ⟨h1, h2, l, h3, h4, h5⟩ := h
  exact ⟨h1, Nat.le_refl _, l, h3, h4, Nat.le_add_right _ _⟩
theorem PS.fr {S T : St} {k d A W : Nat} (h : PS S k d A W) (h2 : T k (d + 2) = S k (d + 2)) (h3 : T k (d + 3) = S k (d + 3)) : PS T k d A W := by
  obtain ⟨a, b, l, c, e⟩ := h
  exact ⟨h2.trans a, b, l, h3.trans c, e⟩
theorem PO1.up {S T : St} {k d A W W' : Nat} (h : PO1 S k d A W) (h2 : T k (d + 2) = nI W') (hw : W ≤ W') (h3 : T k (d + 3) = S k (d + 3)) (h6 : T k (d + 6) = S k (d + 6)) : PO1 T k d A W' := by
  obtain ⟨a, b, c, l, e, f⟩ := h
  exact ⟨h2, by omega, h6.trans c, l, h3.trans e, f⟩
