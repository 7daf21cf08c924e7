/-! a field names another thing -/
theorem kids_range (S : St) (t : Nat) (ht : t < cN S) : kids S t = (List.range' 0 (fN S t)).map (nmQ S (some t)) := by
  unfold kids kidsF
  rw [fO_s, if_pos ht]; rfl
theorem s_teField {S : St} {M W x i y : Nat} (hI : INV S M) (hx : x < cN S) (hi : i < fN S x) (hxr : x ∈ rcL S) (hyr : y ∈ rcL S) (hW : S 42 3 = nI W) (hne : nmO S x i ≠ some y) :
    ∃ U T, m_Gr_nameByField S (nI x) (nI i) (nI y) = some U ∧ m_Te_tellStores U (nI x) (oI (nmO S x i)) (nI y) = some T ∧ Fr fRt S T ∧ INV T M ∧ cN T = cN S ∧ (∃ W', T 42 3 = nI W' ∧ W ≤ W' ∧ W' ≤ W + 242) ∧ nmO T x i = some y ∧ fN T x = fN S x := by
  obtain ⟨hG, hC, hN, hM, hU⟩ := hI
  have h80 := hG.1.2.1
  have hy := rc_lt hG.1 y hyr
  have hf3 := (hG.1.2.2.1 x hx).2.1
  obtain ⟨U, e, F, hGU, zc, zf, zn, zn2, zr⟩ := s_gNameByField hG.1 hx hi (some y) (fun t h => by cases h; exact hy)
  have zw : ∀ t, wN U t = wN S t := fun t => by unfold wN; rw [zf]
  have hk1 : ∀ t, t < cN S → t ≠ x → kids U t = kids S t := fun t ht htx => by
    rw [kids_range U t (by omega), kids_range S t ht, zf]
    refine List.map_congr_left (fun j hj => ?_)
    have hj2 := List.mem_range'_1.mp hj
    have hft := (hG.1.2.2.1 t ht).2.1
    rw [nmQ_s, nmQ_s, zc, zf, zn2 t j ht (by omega) (fun z => htx z.1)]
  have hk2 : ∀ t u, t < cN S → some u ∈ kids U t → some u ∈ kids S t ∨ (t = x ∧ u = y) := fun t u ht hu => by
    obtain ⟨a, j, b, c⟩ := mem_kids.mp hu
    rw [zf] at b
    have hft := (hG.1.2.2.1 t ht).2.1
    by_cases q : t = x ∧ j = i
    · obtain ⟨rfl, rfl⟩ := q
      rw [zn] at c; cases c
      exact Or.inr ⟨rfl, rfl⟩
    · rw [zn2 t j ht (by omega) q] at c
      exact Or.inl (mem_kids.mpr ⟨ht, j, b, c⟩)
  have hsub : ∀ u ∈ rcL U, u ∈ rcL S := by
    refine rc_min _ (fun r' t hr' h1 => rc_root hr' (by rw [← zr]; exact h1)) (fun t ht u hu => ?_)
    rcases hk2 t u (rc_lt hG.1 t ht) hu with q | ⟨-, q⟩
    · exact rc_kid hG.1 ht q
    · rw [q]; exact hyr
  have F' : ∀ a j, 8 < a → U a j = S a j := fun a j h => F _ _ (by omega)
  have bb : ∀ k t, 12 ≤ k → hB U k t = hB S k t := fun k t hk => hB_eq (fun j => F' _ _ (by omega)) t
  have hCU : CoI U M := hC.tr hGU.1 (by omega) (fun t _ => zw t) (fun j => F' _ _ (by omega)) (fun j => F' _ _ (by omega)) (F' _ _ (by omega)) (F' _ _ (by omega)) (F' _ _ (by omega)) (F' _ _ (by omega)) (fun _ t ht => Or.inl (hsub t ht))
  have hNU : NuI U M := hN.tr hGU.1 (by omega) (fun t _ => zw t) (fun a j h1 h2 => F' _ _ (by omega)) (fun j _ _ _ => F' _ _ (by omega)) (fun _ t ht => Or.inl (hsub t ht))
  have hMB : MaB U M := hM.1.chg hGU.1 (by omega) (fun t _ => zw t) (fun a j h => F' _ _ (by omega))
  have hCB : CuB U M := hU.1.chg hGU.1 (by omega) (fun t _ => zw t) (fun a j h => F' _ _ (by omega))
  have hMX : U 31 6 = 0 → MaX U nE1 (fun t u => t = x ∧ some y = some u) := fun q => by
    have q' : S 31 6 = 0 := (F' 31 6 (by omega)) ▸ q
    refine (hM.2 q').chg hM.1.2.1 hGU.1 (by omega) (fun a j h => F' _ _ (by omega)) (fun t ht => ?_) (fun r' t hr' h1 => Or.inl ⟨r', hr', by rw [← zr]; exact h1⟩) (fun t u ht hu => (hk2 t u ht hu).imp id (fun z => ⟨z.1, by rw [z.2]⟩))
    rw [bb 31 t (by omega)]
    exact (hM.2 q').1 t (hsub t ht)
  have hCN : U 42 6 = 0 → CN U (nmO S x i) (some y) := fun q => by
    have q' : S 42 6 = 0 := (F' 42 6 (by omega)) ▸ q
    obtain ⟨hE, hP, hCL⟩ := hU.2 q'
    have hRH := hCL.rh hG.1
    have hhx := hRH x hxr
    have hkx : ∀ t, kc U x t + oc1 (nmO S x i) t = kc S x t + oc1 (some y) t := fun t => by
      have h1 : nmQ U (some x) i = some y := by rw [nmQ_s, zc, zf, if_pos ⟨hx, hi⟩]; exact zn
      have h2 : nmQ S (some x) i = nmO S x i := by rw [nmQ_s, if_pos ⟨hx, hi⟩]
      have := ct_set (f := nmQ S (some x)) (g := nmQ U (some x)) (r := i) (t := t) (fun j hj => by
        rw [nmQ_s, nmQ_s, zc, zf]
        by_cases z : x < cN S ∧ j < fN S x
        · rw [if_pos z, if_pos z, zn2 x j hx (by omega) (fun y => hj y.2)]
        · rw [if_neg z, if_neg z]) (fN S x) 0 (Nat.zero_le _) (by omega)
      rw [h1, h2] at this
      unfold kc
      rw [kids_range U x (by omega), kids_range S x hx, zf]
      exact this
    have hnf : ∀ t, nf U t + oc1 (nmO S x i) t = nf S t + oc1 (some y) t := fun t => by
      have a1 := sm_upd (f := nfF S t) (g := fun u => if u = x then 0 else nfF S t u) (x := x) (c := kc S x t) (by unfold nfF; rw [if_pos hhx]; simp) (fun u hu => by simp [hu]) (n := cN S)
      have a2 := sm_upd (f := nfF U t) (g := fun u => if u = x then 0 else nfF U t u) (x := x) (c := kc U x t) (by unfold nfF; rw [bb 42 x (by omega), if_pos hhx]; simp) (fun u hu => by simp [hu]) (n := cN S)
      have a3 : sm (fun u => if u = x then 0 else nfF U t u) (cN S) = sm (fun u => if u = x then 0 else nfF S t u) (cN S) := sm_congr (fun u hu => by
        by_cases z : u = x
        · rw [if_pos z, if_pos z]
        · rw [if_neg z, if_neg z]
          unfold nfF kc
          rw [bb 42 u (by omega), hk1 u hu z])
      rw [if_pos hx] at a1 a2
      have a4 := hkx t
      unfold nf
      rw [zc]; omega
    have hnr : ∀ t, nr U t = nr S t := fun t => by
      have : rtsF U (-1) 0 = rtsF S (-1) 0 := by unfold rtsF; rw [show rtO U = rtO S from funext zr]
      unfold nr; rw [this]
    refine ⟨fun t ht hh => ⟨nf S t + nr S t, ?_, ?_⟩, fun t ht hh => ?_, fun u t hu hh hk => ?_, fun r' t hr' h1 => ?_, fun t ht hh => ?_⟩
    · rw [zc] at ht; rw [bb 42 t (by omega)] at hh; rw [F' 46 t (by omega)]; exact hE t ht hh
    · have := hnf t; rw [hnr]; omega
    · rw [zc] at ht; rw [bb 42 t (by omega)] at hh
      have := hnf t
      have h1 : 1 ≤ nf S t + nr S t + 0 := hP t ht hh
      rw [hnr]; omega
    · rw [zc] at hu; rw [bb 42 u (by omega)] at hh; rw [bb 42 t (by omega)]
      rcases hk2 u t hu hk with z | ⟨-, z⟩
      · exact hCL.1 u t hu hh z
      · rw [z]; exact hRH y hyr
    · rw [bb 42 t (by omega)]; rw [zr] at h1; exact hCL.2.1 r' t hr' h1
    · rw [zc]; rw [bb 42 t (by omega)] at hh; exact hCL.2.2 t ht hh
  obtain ⟨T, e2, F2, hMT, hUT, hw'⟩ := s_tell hGU.1 (nI x) (nmO S x i) (some y) (fun t h => by rw [zc]; exact ((hG.1.2.2.1 x hx).2.2 i (by omega)).2 t h) (fun t h => by cases h; rw [zc]; exact hy) hMB
    (fun q => s_maLearnF hGU.1 (by rw [zc]; exact hx) _ (some y) (b_s (by omega)) (hMX q)) hCB hCN ((F' 42 3 (by omega)).trans hW)
  have g2 : GEq U T := GEq.of F2 (fun a j q => by unfold fG fL rowP at q; omega)
  exact ⟨U, T, e, e2, (F.mono (fun a j q => Or.inl (by omega))).tr (F2.mono (fun a j q => Or.inr q)), inv_tell hGU hCU hNU F2 hMT hUT, by rw [g2.c, zc], hw', by rw [g2.n]; exact zn, by rw [g2.f, zf]⟩
