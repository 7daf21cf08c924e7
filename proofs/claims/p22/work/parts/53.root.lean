/-! a root names another thing -/
theorem MaB.chg {S T : St} {M : Nat} (h : MaB S M) (hT : GW T) (hc : cN S ≤ cN T) (hw : ∀ t, t < cN S → wN T t = wN S t) (h31 : ∀ a j, 30 < a → T a j = S a j) : MaB T M := by
  have b : ∀ t, hB T 31 t = hB S 31 t := fun t => hB_eq (fun j => h31 _ _ (by omega)) t
  have h80 := hT.2.1
  exact ⟨(h31 _ _ (by omega)).trans h.1, fun t ht hh => Nat.lt_of_lt_of_le (h.2.1 t ht (b t ▸ hh)) hc, h.2.2.1.tr (fun t ht hh => ⟨h.2.1 t (by omega) (b t ▸ hh), b t ▸ hh⟩) hw (fun j => h31 _ _ (by omega)), fun q t ht => by rw [b]; rw [h31 _ _ (by omega)] at q; exact h.2.2.2 q t ht⟩
theorem CuB.chg {S T : St} {M : Nat} (h : CuB S M) (hT : GW T) (hc : cN S ≤ cN T) (hw : ∀ t, t < cN S → wN T t = wN S t) (h31 : ∀ a j, 30 < a → T a j = S a j) : CuB T M := by
  have b : ∀ t, hB T 42 t = hB S 42 t := fun t => hB_eq (fun j => h31 _ _ (by omega)) t
  have h80 := hT.2.1
  exact ⟨(h31 _ _ (by omega)).trans h.1, fun t ht hh => Nat.lt_of_lt_of_le (h.2.1 t ht (b t ▸ hh)) hc, h.2.2.1.tr (fun t ht hh => ⟨h.2.1 t (by omega) (b t ▸ hh), b t ▸ hh⟩) hw (fun j => h31 _ _ (by omega)), fun q t ht => by rw [b]; rw [h31 _ _ (by omega)] at q; exact h.2.2.2 q t ht⟩
def fRt (a j : Nat) : Prop := (2 < a ∧ a < 9) ∨ fG a j ∨ fL a j
/-- after the graph has changed and the stores were told -/
theorem inv_tell {U T : St} {M : Nat} (hG : GI U) (hC : CoI U M) (hN : NuI U M) (F : Fr (fun a j => fG a j ∨ fL a j) U T) (hM : MaI T M) (hU : CuI T M) : INV T M := by
  have g : GEq U T := GEq.of F (fun a j q => by unfold fG fL rowP at q; omega)
  have hGT : GI T := hG.eq g (fun j => F _ _ (by unfold fG fL rowP; omega))
  have hr : ∀ t ∈ rcL T, t ∈ rcL U := fun t ht => by rw [rcL_eq g] at ht; exact ht
  exact ⟨hGT, hC.tr hGT.1 (by rw [g.c]; exact Nat.le_refl _) (fun t _ => by rw [wN_eq g]) (fun j => F _ _ (by unfold fG fL rowP; omega)) (fun j => F _ _ (by unfold fG fL rowP; omega)) (F _ _ (by unfold fG fL rowP; omega)) (F _ _ (by unfold fG fL rowP; omega)) (F _ _ (by unfold fG fL rowP; omega)) (F _ _ (by unfold fG fL rowP; omega)) (fun _ t ht => Or.inl (hr t ht)),
    hN.tr hGT.1 (by rw [g.c]; exact Nat.le_refl _) (fun t _ => by rw [wN_eq g]) (fun a j h1 h2 => F _ _ (by unfold fG fL rowP; omega)) (fun j h1 h2 h3 => F _ _ (by unfold fG fL rowP; omega)) (fun _ t ht => Or.inl (hr t ht)), hM, hU⟩
theorem s_teRoot {S : St} {M W r : Nat} (hG : GI S) (hC : CoI S M) (hN : NuI S M) (hM : MaI S M) (o : Option Nat) (ho : ∀ t, o = some t → t < cN S) (hU : (o = none ∧ CuI S M) ∨ ∃ t, o = some t ∧ CuJ S M t)
    (hnew : ∀ t, o = some t → t ∉ rcL S ∧ (∀ u, some u ∉ kids S t) ∧ (S 12 5 = 0 → hB S 12 t = true) ∧ (S 18 5 = 0 → hB S 18 t = true) ∧ (S 31 6 = 0 → hB S 31 t = true)) (hr : r < 6) (hW : S 42 3 = nI W) :
    ∃ v T, m_Te_nameByRoot S (nI r) (oI o) = some (v, T) ∧ Fr fRt S T ∧ INV T M ∧ cN T = cN S ∧ ∃ W', T 42 3 = nI W' ∧ W ≤ W' ∧ W' ≤ W + 242 := by
  have h80 := hG.1.2.1
  have hb : ∀ t, rtO S r = some t → t < cN S := (hG.1.2.2.2 r hr).2
  unfold m_Te_nameByRoot
  rw [o1_e (s_rootAt hG.1 hr)]
  by_cases hbo : rtO S r = o
  · rw [if_pos (by rw [hbo])]
    rcases hU with ⟨hn, hU⟩ | ⟨t, ht, -⟩
    · exact ⟨_, S, rfl, Fr.rfl', ⟨hG, hC, hN, hM, hU⟩, rfl, W, hW, Nat.le_refl _, by omega⟩
    · exact absurd (rc_root hr (hbo.trans ht)) (hnew t ht).1
  · rw [if_neg (fun z => hbo ((oI_inj (fun t h => by have := hb t h; omega) (fun t h => by have := ho t h; omega)).mp z))]
    obtain ⟨U, e, F, hGU, zc, zw, zr, zr2, zk⟩ := s_gNameByRoot hG.1 hr o ho
    have hsub : ∀ u ∈ rcL U, u ∈ rcL S ∨ o = some u := by
      refine rc_min _ (fun r' t hr' h1 => ?_) (fun t ht u hu => ?_)
      · by_cases q : r' = r
        · subst q; rw [zr] at h1; exact Or.inr h1
        · rw [zr2 r' q] at h1; exact Or.inl (rc_root hr' h1)
      · rw [zk] at hu
        rcases ht with q | q
        · exact Or.inl (rc_kid hG.1 q hu)
        · exact absurd hu ((hnew t q).2.1 u)
    have F' : ∀ a j, 8 < a → U a j = S a j := fun a j h => F _ _ (by omega)
    have bb : ∀ k t, 12 ≤ k → hB U k t = hB S k t := fun k t hk => hB_eq (fun j => F' _ _ (by omega)) t
    have hCU : CoI U M := hC.tr hGU.1 (by omega) (fun t _ => zw t) (fun j => F' _ _ (by omega)) (fun j => F' _ _ (by omega)) (F' _ _ (by omega)) (F' _ _ (by omega)) (F' _ _ (by omega)) (F' _ _ (by omega)) (fun h5 t ht => (hsub t ht).elim Or.inl (fun q => Or.inr ((hnew t q).2.2.1 h5)))
    have hNU : NuI U M := hN.tr hGU.1 (by omega) (fun t _ => zw t) (fun a j h1 h2 => F' _ _ (by omega)) (fun j _ _ _ => F' _ _ (by omega)) (fun h5 t ht => (hsub t ht).elim Or.inl (fun q => Or.inr ((hnew t q).2.2.2.1 h5)))
    have hMB : MaB U M := hM.1.chg hGU.1 (by omega) (fun t _ => zw t) (fun a j h => F' _ _ (by omega))
    have hCB0 : CuB S M := hU.elim (fun z => z.2.1) (fun ⟨t, _, z⟩ => z.1)
    have hCB : CuB U M := hCB0.chg hGU.1 (by omega) (fun t _ => zw t) (fun a j h => F' _ _ (by omega))
    have hMX : U 31 6 = 0 → MaX U (fun t => o = some t) nE2 := fun q => by
      have q' : S 31 6 = 0 := (F' 31 6 (by omega)) ▸ q
      refine (hM.2 q').chg hM.1.2.1 hGU.1 (by omega) (fun a j h => F' _ _ (by omega)) (fun t ht => ?_) (fun r' t hr' h1 => ?_) (fun t u _ hu => Or.inl (by rw [zk] at hu; exact hu))
      · rw [bb 31 t (by omega)]
        exact (hsub t ht).elim (fun z => (hM.2 q').1 t z) (fun z => (hnew t z).2.2.2.2 q')
      · by_cases z : r' = r
        · subst z; rw [zr] at h1; exact Or.inr h1
        · rw [zr2 r' z] at h1; exact Or.inl ⟨r', hr', h1⟩
    have hCN : U 42 6 = 0 → CN U (rtO S r) o := fun q => by
      have q' : S 42 6 = 0 := (F' 42 6 (by omega)) ▸ q
      have hnf : ∀ t, nf U t = nf S t := fun t => by
        have : nfF U t = nfF S t := funext fun u => by unfold nfF kc; rw [bb 42 u (by omega), zk]
        unfold nf; rw [this, zc]
      have hnr : ∀ t, nr U t + oc1 (rtO S r) t = nr S t + oc1 o t := fun t => by
        have := nr_set (S := S) (T := U) hr zr2 t
        rw [zr] at this; exact this
      have all : CE S (fun _ => 0) ∧ (∀ t, t < cN S → hB S 42 t = true → 1 ≤ nf S t + nr S t + oc1 o t) ∧ CL S ∧ ∀ t, o = some t → hB S 42 t = true := by
        rcases hU with ⟨hn, hU⟩ | ⟨t, ht, hJ⟩
        · obtain ⟨a, b, c⟩ := hU.2 q'
          exact ⟨a, fun t ht hh => by have h1 : 1 ≤ nf S t + nr S t + 0 := b t ht hh; omega, c, fun t ht => by rw [hn] at ht; cases ht⟩
        · obtain ⟨a, b, c, d⟩ := hJ.2 q'
          refine ⟨a, fun u hu hh => ?_, c, fun u hu => by rw [ht] at hu; cases hu; exact d⟩
          by_cases z : u = t
          · subst z; rw [ht]; unfold oc1; rw [if_pos rfl]; omega
          · have := b u z hu hh; omega
      obtain ⟨hE, hP, hCL, hh42⟩ := all
      refine ⟨fun t ht hh => ⟨nf S t + nr S t, ?_, ?_⟩, fun t ht hh => ?_, fun u t hu hh hk => ?_, fun r' t hr' h1 => ?_, fun t ht hh => ?_⟩
      · rw [zc] at ht; rw [bb 42 t (by omega)] at hh; rw [F' 46 t (by omega)]; exact hE t ht hh
      · have := hnr t; rw [hnf]; omega
      · rw [zc] at ht; rw [bb 42 t (by omega)] at hh
        have := hnr t; have := hP t ht hh; rw [hnf]; omega
      · rw [zc] at hu; rw [bb 42 u (by omega)] at hh; rw [zk] at hk; rw [bb 42 t (by omega)]; exact hCL.1 u t hu hh hk
      · rw [bb 42 t (by omega)]
        by_cases z : r' = r
        · subst z; rw [zr] at h1; exact hh42 t h1
        · rw [zr2 r' z] at h1; exact hCL.2.1 r' t hr' h1
      · rw [zc]; rw [bb 42 t (by omega)] at hh; exact hCL.2.2 t ht hh
    have ho8 : B80 o := fun t h => by have := ho t h; omega
    obtain ⟨T, e2, F2, hMT, hUT, W', w1, w2, w3⟩ := s_tell hGU.1 (-1) (rtO S r) o (fun t h => by rw [zc]; exact hb t h) (fun t h => by rw [zc]; exact ho t h) hMB (fun q => s_maLearnR hGU.1 _ o ho8 (hMX q)) hCB hCN ((F' 42 3 (by omega)).trans hW)
    have g2 : GEq U T := GEq.of F2 (fun a j q => by unfold fG fL rowP at q; omega)
    rw [o1_e e, o1_e e2]
    exact ⟨_, T, rfl, (F.mono (fun a j q => Or.inl ⟨by omega, q.2⟩)).tr (F2.mono (fun a j q => Or.inr q)), inv_tell hGU hCU hNU F2 hMT hUT, by rw [g2.c, zc], W', w1, w2, w3⟩
