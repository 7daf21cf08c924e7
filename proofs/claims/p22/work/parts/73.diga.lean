/-! asks change scratch cells alone, and answer from the others alone -/
def scr (a j : Nat) : Prop := rowP 9 a j ∨ a = 34 ∨ rowP 39 a j ∨ a = 45 ∨ fRi a j
theorem scr_lo {a j : Nat} (h : scr a j) : (9 ≤ a ∧ a ≤ 11) ∨ a = 34 ∨ (39 ≤ a ∧ a ≤ 41) ∨ a = 45 ∨ a = 48 ∨ (52 ≤ a ∧ a ≤ 57) := by unfold scr fRi rowP at h; omega
theorem x_geq {S T : St} (F : Fr scr S T) : GEq S T := GEq.of F (fun a j q => by have := scr_lo q; omega)
theorem x_c {S T : St} (F : Fr scr S T) {a : Nat} (h : ¬ ((9 ≤ a ∧ a ≤ 11) ∨ a = 34 ∨ (39 ≤ a ∧ a ≤ 41) ∨ a = 45 ∨ a = 48 ∨ (52 ≤ a ∧ a ≤ 57))) (j : Nat) : T a j = S a j := F a j (fun q => h (scr_lo q))
theorem x_gi {S T : St} (F : Fr scr S T) (h : GI S) : GI T := h.eq (x_geq F) (x_c F (by omega))
theorem x_meq {S T : St} (F : Fr scr S T) : MEq S T := MEq.of F (fun a j q => by have := scr_lo q; omega)
theorem x_seq {S T : St} (F : Fr scr S T) : SEq S T := SEq.of F (fun a j q => by have := scr_lo q; omega)
theorem x_inv {S T : St} {M : Nat} (F : Fr scr S T) (h : INV S M) : INV T M := by
  obtain ⟨hG, hC, hN, hM, hU⟩ := h
  have hT := x_gi F hG
  have g := x_geq F
  exact ⟨hT, co_fr hC hT.1 g (fun a j h1 h2 _ => x_c F (by omega) j), nu_fr hN hT.1 g (fun a j h1 h2 _ => x_c F (by omega) j),
    hM.fr (x_meq F) (x_c F (by omega) _) (x_c F (by omega) _) (x_c F (by omega)), hU.fr (x_seq F) (x_c F (by omega) _) (x_c F (by omega) _) (x_c F (by omega))⟩
theorem x_hB {S T : St} (F : Fr scr S T) {s : Nat} (hs : s < 4) (t : Nat) : hB T (kS s) t = hB S (kS s) t := by
  have h : s = 0 ∨ s = 1 ∨ s = 2 ∨ s = 3 := by omega
  rcases h with rfl | rfl | rfl | rfl <;> exact hB_eq (x_c F (by decide)) t
theorem x_own {S T : St} (F : Fr scr S T) {s : Nat} (hs : s < 4) (j : Nat) : T (kS s) j = S (kS s) j := by
  have h : s = 0 ∨ s = 1 ∨ s = 2 ∨ s = 3 := by omega
  rcases h with rfl | rfl | rfl | rfl <;> exact x_c F (by decide) j
theorem x_had1 {S T : St} (F : Fr scr S T) {s : Nat} (hs : s < 4) : had1 T (kS s) = had1 S (kS s) := funext fun t => by unfold had1; rw [x_hB F hs]
theorem x_hadW {S T : St} (F : Fr scr S T) {s : Nat} (hs : s < 4) : hadW T (kS s) = hadW S (kS s) := funext fun t => by unfold hadW; rw [x_hB F hs, wN_eq (x_geq F)]
theorem x_hadU {S T : St} (F : Fr scr S T) {s : Nat} (hs : s < 4) : hadU T (kS s) = hadU S (kS s) := funext fun t => by unfold hadU; rw [x_hB F hs, rcL_eq (x_geq F)]
theorem x_hadR {S T : St} (F : Fr scr S T) {s : Nat} (hs : s < 4) : hadR T (kS s) = hadR S (kS s) := funext fun t => by unfold hadR; rw [x_hB F hs, rcL_eq (x_geq F), wN_eq (x_geq F)]
def DG {α : Type} (S : St) (F : St → Option (α × St)) : Prop := ∃ d, ∀ T, Fr scr S T → ∃ T', F T = some (d, T') ∧ Fr scr S T'
def PA {α : Type} (S : St) (f : St → Option α) : Prop := ∃ r, ∀ T, Fr scr S T → f T = some r
theorem DG.ob {α β : Type} {S : St} {f : St → Option (α × St)} {g : α → St → Option (β × St)} (h : DG S f) (k : ∀ r, DG S (g r)) : DG S (fun T => ob (f T) fun r T' => g r T') := by
  obtain ⟨r, hr⟩ := h
  obtain ⟨d, hd⟩ := k r
  refine ⟨d, fun T F => ?_⟩
  obtain ⟨T1, e1, F1⟩ := hr T F
  obtain ⟨T2, e2, F2⟩ := hd T1 F1
  exact ⟨T2, (ob_e e1).trans e2, F2⟩
theorem DG.o1 {α β : Type} {S : St} {f : St → Option α} {g : α → St → Option (β × St)} (h : PA S f) (k : ∀ r, DG S (g r)) : DG S (fun T => o1 (f T) fun r => g r T) := by
  obtain ⟨r, hr⟩ := h
  obtain ⟨d, hd⟩ := k r
  refine ⟨d, fun T F => ?_⟩
  obtain ⟨T2, e2, F2⟩ := hd T F
  exact ⟨T2, (o1_e (hr T F)).trans e2, F2⟩
theorem DG.s {α : Type} {S : St} (d : α) : DG S (fun T => some (d, T)) := ⟨d, fun T F => ⟨T, rfl, F⟩⟩
theorem PA.o1 {α β : Type} {S : St} {f : St → Option α} {g : α → St → Option β} (h : PA S f) (k : ∀ r, PA S (g r)) : PA S (fun T => o1 (f T) fun r => g r T) := by
  obtain ⟨r, hr⟩ := h
  obtain ⟨d, hd⟩ := k r
  exact ⟨d, fun T F => (o1_e (hr T F)).trans (hd T F)⟩
theorem PA.s {α : Type} {S : St} (d : α) : PA S (fun _ => some d) := ⟨d, fun _ _ => rfl⟩
theorem PA.mx (S : St) (a : Int64) (b : Int32) : PA S (fun T => m_Te_mixed T a b) := ⟨_, fun _ _ => rfl⟩
theorem DG.of {S : St} {f : St → Option (Int32 × St)} (v : Int32) (h : ∀ T, Fr scr S T → f T = some (v, T)) : DG S f := ⟨v, fun T F => ⟨T, h T F, F⟩⟩
theorem dg_told0 {S : St} (hG : GI S) {s : Nat} (hs : s < 4) : DG S (fun T => m_Te_told T (nI s) 0) := DG.of (nI (sm (had1 S (kS s)) (cN S))) (fun T F => by rw [s_told0 (x_gi F hG) hs, x_had1 F hs, (x_geq F).c])
theorem dg_told1 {S : St} (hG : GI S) {s : Nat} (hs : s < 4) : DG S (fun T => m_Te_told T (nI s) 1) := DG.of (nI (sm (hadW S (kS s)) (cN S))) (fun T F => by rw [s_told1 (x_gi F hG) hs, x_hadW F hs, (x_geq F).c])
theorem dg_told2 {S : St} (hG : GI S) {s : Nat} (hs : s < 4) : DG S (fun T => m_Te_told T (nI s) 2) := DG.of (nI (sm (hadU S (kS s)) (cN S))) (fun T F => by rw [s_told2 (x_gi F hG) hs, x_hadU F hs, (x_geq F).c])
theorem dg_told3 {S : St} (hG : GI S) {s : Nat} (hs : s < 4) : DG S (fun T => m_Te_told T (nI s) 3) := DG.of (S (kS s) (dS s + 2)) (fun T F => by rw [s_told3 (x_gi F hG) hs, x_own F hs])
theorem dg_told4 {S : St} (hG : GI S) {s : Nat} (hs : s < 4) : DG S (fun T => m_Te_told T (nI s) 4) := DG.of (S (kS s) (dS s + 3)) (fun T F => by rw [s_told4 (x_gi F hG) hs, x_own F hs])
theorem dg_told6 {S : St} (hG : GI S) {s : Nat} (hs : s < 4) : DG S (fun T => m_Te_told T (nI s) 6) := DG.of (S (kS s) (dS s + 4)) (fun T F => by rw [s_told6 (x_gi F hG) hs, x_own F hs])
theorem dg_told7 {S : St} {s : Nat} (hs : s < 4) : DG S (fun T => m_Te_told T (nI s) 7) := DG.of (if S (kS s) (dS s + 5) = 0 then 0 else 1) (fun T F => by rw [s_told7 hs, x_own F hs])
theorem x_free {S : St} {k M : Nat} (hk : 12 ≤ k) (hs : ∀ a j, a = k + 3 → scr a j) (hc : ∀ a, a = k ∨ a = k + 1 ∨ a = k + 2 → ¬ ((9 ≤ a ∧ a ≤ 11) ∨ a = 34 ∨ (39 ≤ a ∧ a ≤ 41) ∨ a = 45 ∨ a = 48 ∨ (52 ≤ a ∧ a ≤ 57))) (hM : M < 160) (hG : GW S) (hP : PO S k M) (hS : S k 2 = nI M) : DG S (fun T => m_Sc_freeTogether k T) := by
  obtain ⟨r, S1, -, e1, -, -, -⟩ := s_freeTogether hk hM hG hP hS GEq.rfl' rfl (fun _ => rfl) (fun _ => rfl)
  refine ⟨r, fun T F => ?_⟩
  obtain ⟨r', S2, T', e2, e3, -, F3⟩ := s_freeTogether hk hM hG hP hS (x_geq F) (x_c F (hc k (Or.inl rfl)) 2) (x_c F (hc (k + 1) (Or.inr (Or.inl rfl)))) (x_c F (hc (k + 2) (Or.inr (Or.inr rfl))))
  have : r' = r := by
    rw [e1] at e2
    exact (Prod.mk.inj (Option.some.inj e2)).1.symm
  subst this
  exact ⟨T', e3, F.tr (F3.mono (fun a j q => hs a j q))⟩
theorem dg_told5 {S : St} {M s : Nat} (hI : INV S M) (hM : M < 160) (hs : s < 4) : DG S (fun T => m_Te_told T (nI s) 5) := by
  have h : s = 0 ∨ s = 1 ∨ s = 2 ∨ s = 3 := by omega
  rcases h with rfl | rfl | rfl | rfl
  · refine DG.of (if S 12 5 = 0 then S 12 1 / 2 - S 12 11 else 0) (fun T F => ?_)
    unfold m_Te_told
    rw [o1_e (s_storeOf T (s := 0) (by omega)), if_pos (by decide), o1_e (show m_Te_checkWhat T 5 7 = some () from rfl), if_neg (by decide), if_neg (by decide), if_neg (by decide), if_neg (by decide), if_neg (by decide), if_pos rfl]
    unfold m_Cop_freeTogether
    rw [x_c F (by omega) 5, x_c F (by omega) 1, x_c F (by omega) 11]
    by_cases z : S 12 5 = 0
    · rw [if_pos z, if_pos z]; rfl
    · rw [if_neg z, if_neg z]
  · refine DG.of (if S 18 5 = 0 then S 18 1 / 4 - S 18 15 else 0) (fun T F => ?_)
    unfold m_Te_told
    rw [o1_e (s_storeOf T (s := 1) (by omega)), if_neg (by decide), if_pos (by decide), o1_e (show m_Te_checkWhat T 5 7 = some () from rfl), if_neg (by decide), if_neg (by decide), if_neg (by decide), if_neg (by decide), if_neg (by decide), if_pos rfl]
    unfold m_Nur_freeTogether
    rw [x_c F (by omega) 5, x_c F (by omega) 1, x_c F (by omega) 15]
    by_cases z : S 18 5 = 0
    · rw [if_pos z, if_pos z]; rfl
    · rw [if_neg z, if_neg z]
  · obtain ⟨r, hr⟩ := x_free (k := 31) (by omega) (fun a j q => Or.inr (Or.inl q)) (fun a q => by omega) hM hI.1.1 hI.2.2.2.1.1.2.2.1 hI.2.2.2.1.1.1
    refine ⟨if S 31 6 = 0 then r else 0, fun T F => ?_⟩
    obtain ⟨T', e, F'⟩ := hr T F
    show ∃ T', m_Te_told T (nI 2) 5 = _ ∧ _
    unfold m_Te_told
    rw [o1_e (s_storeOf T (s := 2) (by omega)), if_neg (by decide), if_neg (by decide), if_pos (by decide), o1_e (show m_Te_checkWhat T 5 7 = some () from rfl), if_neg (by decide), if_neg (by decide), if_neg (by decide), if_neg (by decide), if_neg (by decide), if_pos rfl, x_c F (by omega) 6]
    by_cases z : S 31 6 = 0
    · rw [if_pos z, if_pos z, ob_e e]; exact ⟨T', rfl, F'⟩
    · rw [if_neg z, if_neg z]; exact ⟨T, rfl, F⟩
  · obtain ⟨r, hr⟩ := x_free (k := 42) (by omega) (fun a j q => Or.inr (Or.inr (Or.inr (Or.inl q)))) (fun a q => by omega) hM hI.1.1 hI.2.2.2.2.1.2.2.1 hI.2.2.2.2.1.1
    refine ⟨if S 42 6 = 0 then r else 0, fun T F => ?_⟩
    obtain ⟨T', e, F'⟩ := hr T F
    show ∃ T', m_Te_told T (nI 3) 5 = _ ∧ _
    unfold m_Te_told
    rw [o1_e (s_storeOf T (s := 3) (by omega)), if_neg (by decide), if_neg (by decide), if_neg (by decide), if_pos (by decide), o1_e (show m_Te_checkWhat T 5 7 = some () from rfl), if_neg (by decide), if_neg (by decide), if_neg (by decide), if_neg (by decide), if_neg (by decide), if_pos rfl, x_c F (by omega) 6]
    by_cases z : S 42 6 = 0
    · rw [if_pos z, if_pos z, ob_e e]; exact ⟨T', rfl, F'⟩
    · rw [if_neg z, if_neg z]; exact ⟨T, rfl, F⟩
