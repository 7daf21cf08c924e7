/-! store 3: a new thing -/
def CuB (S : St) (M : Nat) : Prop := S 42 2 = nI M ∧ HC S 42 ∧ PO S 42 M ∧ (S 42 6 ≠ 0 → ∀ t, t < 80 → hB S 42 t = false)
def CuI (S : St) (M : Nat) : Prop := CuB S M ∧ (S 42 6 = 0 → CE S (fun _ => 0) ∧ CP S (fun _ => 0) ∧ CL S)
/-- just placed, not named yet -/
def CuJ (S : St) (M t : Nat) : Prop := CuB S M ∧ (S 42 6 = 0 → CE S (fun _ => 0) ∧ (∀ u, u ≠ t → u < cN S → hB S 42 u = true → 1 ≤ nf S u + nr S u) ∧ CL S ∧ hB S 42 t = true)
theorem s_couBreak {S : St} {M : Nat} (hB' : CuB S M) (hG : GW S) : ∃ T, m_St_breakDown_Cou S = some T ∧ Fr fCu S T ∧ CuB T M ∧ T 42 6 ≠ 0 ∧ T 42 3 = S 42 3 := by
  obtain ⟨T1, e1, F1, hno⟩ := s_letAll 42 1 (u2 S 42 6 1)
  have clr : ∀ (n i : Nat) (S : St), i ≤ 80 → 80 - i < n → ∃ T, m_Cou_forgetThings_L2 n S (nI i) = some T ∧ Fr (fun a _ => a = 47) S T := by
    intro n
    induction n with
    | zero => intro i S h1 h2; omega
    | succ n ih =>
      intro i S h1 h2
      rw [m_Cou_forgetThings_L2]
      by_cases hi : i = 80
      · subst hi
        exact ⟨S, if_pos (by decide), Fr.rfl'⟩
      · rw [if_neg (by rw [show (80 : Int32) = nI 80 from rfl, n_le (by omega) (by omega)]; omega), oi_t (n_in (by omega) (by omega)), nI_1, n_cl (by omega)]
        obtain ⟨T, e, hF⟩ := ih (i + 1) (u2 S 47 i 0) (by omega) (by omega)
        exact ⟨T, e, ((Fr.u2 S 47 i 0).mono (fun a j h => h.1)).tr hF⟩
  obtain ⟨T2, e2, F2⟩ := clr 200 0 T1 (by omega) (by omega)
  have FS : Fr fCu S T2 := (((Fr.u2 _ _ _ _).mono (fun a j h => by unfold fCu; omega)).tr (F1.mono (fun a j h => by unfold fCu; omega))).tr (F2.mono (fun a j h => by unfold fCu; omega))
  have z6 : T2 42 6 = 1 := by rw [F2 42 6 (by omega), F1 42 6 (by omega), u2_e]
  have hh : ∀ t, t < 80 → hB T2 42 t = false := fun t ht => by
    rw [show hB T2 42 t = hB T1 42 t from hB_eq (fun j => F2 _ _ (by omega)) t]; exact hno t ht
  have h80 := hG.2.1
  unfold m_St_breakDown_Cou m_Cou_forgetThings
  rw [o1_e e1, o1_e (show (o1 (m_Cou_forgetThings_L2 200 T1 0) fun S1 => some S1) = some T2 by rw [o1_e (show m_Cou_forgetThings_L2 200 T1 0 = some T2 from e2)])]
  refine ⟨T2, rfl, FS, ⟨(FS 42 2 (by unfold fCu; omega)).trans hB'.1, fun t ht h1 => ?_, hB'.2.2.1.sub (geq_Cu FS) (fun t ht h1 => ?_) (fun j => by rw [F2 (42 + 2) j (by omega), F1 (42 + 2) j (by omega), u2_n (by omega)]), fun _ => hh⟩, by rw [z6]; decide, by rw [F2 42 3 (by omega), F1 42 3 (by omega), u2_n (by omega)]⟩
  · rw [hh t ht] at h1; cases h1
  · rw [hh t (by omega)] at h1; cases h1
theorem s_couPut {S : St} {M t q : Nat} (hG : GW S) (hM : M < 160) (hBB : CuB S M) (h6 : S 42 6 = 0) (hE : CE S (fun _ => 0)) (hP : CP S (fun _ => 0)) (hC : CL S) (ht : t < cN S) (htr : t ∉ rcL S) (hth : hB S 42 t = false) (hk : ∀ u, some u ∉ kids S t) (hn : ∀ u, some t ∉ kids S u)
    (hq : q + wN S t ≤ M) (hf : ∀ x, q ≤ x → x < q + wN S t → ¬ tk S 42 x) :
    ∃ T, (o1 (m_St_put 42 1 S (nI t) (nI q)) fun S6 => o1 (m_Gr_isThing S6 (nI t)) fun r5 => if r5 = 0 then some S6 else oi (qin (nI t) 80) <| oi (qin (nI t) 80) <| some (u2 (u2 S6 46 (nI t).toNatClampNeg 0) 47 (nI t).toNatClampNeg 0)) = some T ∧
      Fr fCu S T ∧ CuJ T M t ∧ T 42 3 = S 42 3 := by
  have h80 := hG.2.1
  have g1 : GEq S (u2 (u2 S (42 + 1) t 1) (42 + 2) t (nI q)) := ⟨rfl, fun _ => rfl, fun _ => rfl, fun _ => rfl⟩
  rw [o1_e (s_put 42 1 hG ht _), o1_e (s_isThingN (hG.eq g1) (by rw [g1.c]; exact ht)), if_neg (by decide), oi_t (n_in (by omega) (by omega)), oi_t (n_in (by omega) (by omega)), n_cl (by omega)]
  generalize hT : u2 (u2 (u2 (u2 S (42 + 1) t 1) (42 + 2) t (nI q)) 46 t 0) 47 t 0 = T
  have F : Fr (fun a j => (a = 43 ∨ a = 44 ∨ a = 46 ∨ a = 47) ∧ j = t) S T := by
    rw [← hT]
    exact ((((Fr.u2 _ _ _ _).mono (fun a j h => by omega)).tr ((Fr.u2 _ _ _ _).mono (fun a j h => by omega))).tr ((Fr.u2 _ _ _ _).mono (fun a j h => by omega))).tr ((Fr.u2 _ _ _ _).mono (fun a j h => by omega))
  have g : GEq S T := GEq.of F (fun a j q => by omega)
  have t43 : T 43 t = 1 := by rw [← hT, u2_n (by omega), u2_n (by omega), u2_n (by omega)]; exact u2_e _ _ _ _
  have t44 : T 44 t = nI q := by rw [← hT, u2_n (by omega), u2_n (by omega)]; exact u2_e _ _ _ _
  have t46 : T 46 t = 0 := by rw [← hT, u2_n (by omega), u2_e]
  have bt : hB T 42 t = true := by rw [hB_t, show T (42 + 1) t = T 43 t from rfl, t43]; decide
  have bn : ∀ u, u ≠ t → hB T 42 u = hB S 42 u := fun u hu => by unfold hB; rw [F (42 + 1) u (by omega)]
  have kt0 : ∀ u, kc S t u = 0 := fun u => by
    by_cases z : 0 < kc S t u
    · exact absurd (kc_pos.mp z) (hk u)
    · omega
  have hnf : ∀ u, nf T u = nf S u := fun u => by
    unfold nf
    rw [g.c]
    refine sm_congr (fun v _ => ?_)
    unfold nfF
    rw [kc_eq g]
    by_cases z : v = t
    · subst z; rw [kt0]; split <;> split <;> rfl
    · rw [bn v z]
  have nft : nf S t = 0 := by
    unfold nf
    rw [sm_congr (g := fun _ => 0) (fun v _ => ?_), sm_zero]
    unfold nfF
    have : kc S v t = 0 := by
      by_cases z : 0 < kc S v t
      · exact absurd (kc_pos.mp z) (hn v)
      · omega
    rw [this]; split <;> rfl
  have nrt : nr S t = 0 := by
    by_cases z : 0 < nr S t
    · obtain ⟨r, a, b⟩ := nr_pos.mp z
      exact absurd (rc_root a b) htr
    · omega
  refine ⟨T, rfl, F.mono (fun a j h => by unfold fCu; omega), ⟨⟨(F 42 2 (by omega)).trans hBB.1, fun u hu hh => ?_, hBB.2.2.1.put g (by omega) ht (fun u hu => F _ _ (by omega)) t44 (fun u hu => F _ _ (by omega)) hq hf, fun z => absurd ((F 42 6 (by omega)).trans h6) z⟩, fun _ => ⟨fun u hu hh => ?_, fun u hut hu hh => ?_, ⟨fun u x hu hh hkx => ?_, fun r x hr h1 => ?_, fun u hu hh => ?_⟩, bt⟩⟩, F 42 3 (by omega)⟩
  · rw [g.c]
    by_cases hut : u = t
    · rw [hut]; exact ht
    · rw [bn u hut] at hh; exact hBB.2.1 u hu hh
  · rw [hnf, nr_eq g]
    by_cases hut : u = t
    · subst hut; rw [t46, nft, nrt]; rfl
    · rw [g.c] at hu; rw [bn u hut] at hh
      rw [F 46 u (by omega)]; exact hE u hu hh
  · rw [g.c] at hu; rw [bn u hut] at hh
    rw [hnf, nr_eq g]; exact hP u hu hh
  · rw [kids_eq g] at hkx
    by_cases hut : u = t
    · subst hut; exact absurd hkx (hk x)
    · rw [g.c] at hu; rw [bn u hut] at hh
      have hxt : x ≠ t := fun z => hn u (z ▸ hkx)
      rw [bn x hxt]; exact hC.1 u x hu hh hkx
  · rw [g.r] at h1
    have hxt : x ≠ t := fun z => htr (rc_root hr (z ▸ h1))
    rw [bn x hxt]; exact hC.2.1 r x hr h1
  · rw [g.c]
    by_cases hut : u = t
    · rw [hut]; exact ht
    · rw [bn u hut] at hh; exact hC.2.2 u hu hh
theorem s_couPlace {S : St} {M W t : Nat} (hG : GW S) (hM : M < 160) (hI : CuI S M) (h6 : S 42 6 = 0) (hW : S 42 3 = nI W) (ht : t < cN S) (htr : t ∉ rcL S) (hth : hB S 42 t = false) (hk : ∀ u, some u ∉ kids S t) (hn : ∀ u, some t ∉ kids S u) :
    ∃ T, m_Cou_placeNew S (nI t) = some T ∧ Fr fCu S T ∧ CuJ T M t ∧ ∃ W', T 42 3 = nI W' ∧ W ≤ W' ∧ W' ≤ W + 80 := by
  obtain ⟨hBB, hX⟩ := hI
  obtain ⟨hE, hP, hC⟩ := hX h6
  have h80 := hG.2.1
  -- a search leaves all as it was but the scratch
  have find : ∀ U : St, GEq S U → CuB U M → U 42 6 = 0 → CE U (fun _ => 0) → CP U (fun _ => 0) → CL U → hB U 42 t = false →
      ∃ v V, m_Sc_firstPlaceFor 42 U (nI t) = some (v, V) ∧ Fr fCu U V ∧ GEq S V ∧ CuB V M ∧ V 42 6 = 0 ∧ CE V (fun _ => 0) ∧ CP V (fun _ => 0) ∧ CL V ∧ hB V 42 t = false ∧ V 42 3 = U 42 3 ∧ (v = -1 ∨ ∃ q, v = nI q ∧ q + wN V t ≤ M ∧ ∀ x, q ≤ x → x < q + wN V t → ¬ tk V 42 x) := by
    intro U g hBU u6 EU PU CU hno
    obtain ⟨v, V, e, F, hv⟩ := s_firstPlace (k := 42) (by omega) hM (hG.eq g) hBU.2.2.1 hBU.1 (t := t) (by rw [g.c]; exact ht)
    have s := SEq.of F (fun a j q => by omega)
    have hp : ∀ t, pl V 42 t = pl U 42 t := fun t => by unfold pl; rw [F (42 + 2) t (by omega)]
    have htk : ∀ x, tk V 42 x ↔ tk U 42 x := fun x => by unfold tk; simp only [s.1.c, s.hb, hp, wN_eq s.1]
    refine ⟨v, V, e, F.mono (fun a j q => by unfold fCu; omega), g.trans s.1, ⟨(F 42 2 (by omega)).trans hBU.1, fun u hu hh => ?_, hBU.2.2.1.sub s.1 (fun u _ hh => s.hb u ▸ hh) (fun j => F _ _ (by omega)), fun z => absurd ((F 42 6 (by omega)).trans u6) z⟩, (F 42 6 (by omega)).trans u6, fun u hu hh => ?_, fun u hu hh => ?_, ⟨fun u x hu hh hkx => ?_, fun r x hr h1 => ?_, fun u hu hh => ?_⟩, by rw [s.hb]; exact hno, F 42 3 (by omega), ?_⟩
    · rw [s.1.c]; rw [s.hb] at hh; exact hBU.2.1 u hu hh
    · rw [s.1.c] at hu; rw [s.hb] at hh; rw [nf_eq s.1 s.hb, nr_eq s.1, s.2.2.1]; exact EU u hu hh
    · rw [s.1.c] at hu; rw [s.hb] at hh; rw [nf_eq s.1 s.hb, nr_eq s.1]; exact PU u hu hh
    · rw [s.1.c] at hu; rw [s.hb] at hh ⊢; rw [kids_eq s.1] at hkx; exact CU.1 u x hu hh hkx
    · rw [s.1.r] at h1; rw [s.hb]; exact CU.2.1 r x hr h1
    · rw [s.1.c]; rw [s.hb] at hh; exact CU.2.2 u hu hh
    · rcases hv with z | ⟨q, a, b, c⟩
      · exact Or.inl z
      · refine Or.inr ⟨q, a, by rw [wN_eq s.1]; exact b, fun x hx hx2 => ?_⟩
        rw [htk]; rw [wN_eq s.1] at hx2
        exact c x hx hx2
  obtain ⟨v, V, e, F, g, hBV, v6, EV, PV, CV, nV, wV, hv⟩ := find S GEq.rfl' hBB h6 hE hP hC hth
  have c1 : t < cN V := by rw [g.c]; exact ht
  unfold m_Cou_placeNew
  rw [ob_e e]
  rcases hv with rfl | ⟨q, rfl, hq, hf⟩
  · rw [if_pos rfl]
    obtain ⟨U, gn, e2, F2, EU, PU, CU, sh, w3, -, -⟩ := s_couCollect (hG.eq g) EV PV CV (wV.trans hW)
    have gU : GEq V U := GEq.of F2 (fun a j q => by unfold fCu at q; omega)
    have F2' : Fr fCu V U := F2.mono (fun a j q => q.1)
    have hV80 : cN V ≤ 80 := by rw [g.c]; exact h80
    have hBU : CuB U M := ⟨(F2 42 2 (by unfold fCu; omega)).trans hBV.1, fun u hu hh => by rw [gU.c]; exact hBV.2.1 u hu (sh u hu hh), hBV.2.2.1.sub gU (fun u hu hh => sh u (by omega) hh) (fun j => F2 _ _ (by omega)), fun z => absurd ((F2 42 6 (by omega)).trans v6) z⟩
    have lS : (spL V).length ≤ 80 := nd_len 80 _ (sp_nodup V) (fun u hu => Nat.lt_of_lt_of_le (sp_lt (hG.eq g) u hu) hV80)
    have nU : hB U 42 t = false := Bool.eq_false_iff.mpr (fun z => by rw [sh t (by omega) z] at nV; cases nV)
    obtain ⟨v', X, e3, F3, g3, hBX, x6, EX, PX, CX, nX, wX, hv'⟩ := find U (g.trans gU) hBU ((F2 42 6 (by omega)).trans v6) EU PU CU nU
    have FX := (F.tr F2').tr F3
    rw [ob_e e2, ob_e e3]
    rcases hv' with rfl | ⟨q, rfl, hq, hf⟩
    · rw [if_pos rfl]
      obtain ⟨T, e4, F4, hBT, t6, w4⟩ := s_couBreak hBX (hG.eq g3)
      rw [o1_e e4]
      exact ⟨T, rfl, FX.tr F4, ⟨hBT, fun z => absurd z t6⟩, _, (w4.trans wX).trans w3, by omega, by omega⟩
    · rw [if_neg (m1_ne (by omega))]
      obtain ⟨T, e4, F4, hJ, w4⟩ := s_couPut (hG.eq g3) hM hBX x6 EX PX CX (by rw [g3.c]; exact ht) (by rw [rcL_eq g3]; exact htr) nX (by rw [kids_eq g3]; exact hk) (by rw [kids_eq g3]; exact hn) hq hf
      exact ⟨T, e4, FX.tr F4, hJ, _, (w4.trans wX).trans w3, by omega, by omega⟩
  · rw [if_neg (m1_ne (by omega)), if_neg (m1_ne (by omega))]
    obtain ⟨T, e4, F4, hJ, w4⟩ := s_couPut (hG.eq g) hM hBV v6 EV PV CV c1 (by rw [rcL_eq g]; exact htr) nV (by rw [kids_eq g]; exact hk) (by rw [kids_eq g]; exact hn) hq hf
    exact ⟨T, e4, F.tr F4, hJ, W, (w4.trans wV).trans hW, Nat.le_refl _, by omega⟩
