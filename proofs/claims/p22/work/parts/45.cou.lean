/-! store 3: counts -/
def ct : List (Option Nat) → Nat → Nat
  | [], _ => 0
  | o :: l, t => (if o = some t then 1 else 0) + ct l t
theorem ct_c (o : Option Nat) (l : List (Option Nat)) (t : Nat) : ct (o :: l) t = (if o = some t then 1 else 0) + ct l t := rfl
theorem ct_le (l : List (Option Nat)) (t : Nat) : ct l t ≤ l.length := by
  induction l with
  | nil => exact Nat.le_refl _
  | cons o l ih =>
    rw [ct_c, List.length_cons]
    split <;> omega
theorem ct_pos {l : List (Option Nat)} {t : Nat} : 0 < ct l t ↔ some t ∈ l := by
  induction l with
  | nil => exact ⟨fun h => absurd h (Nat.lt_irrefl 0), fun h => (by cases h)⟩
  | cons o l ih =>
    rw [ct_c, List.mem_cons]
    by_cases q : o = some t
    · rw [if_pos q]; exact ⟨fun _ => Or.inl q.symm, fun _ => by omega⟩
    · rw [if_neg q, Nat.zero_add, ih]
      exact ⟨Or.inr, fun h => h.resolve_left (fun z => q z.symm)⟩
def kc (S : St) (u t : Nat) : Nat := ct (kids S u) t
theorem kidsF_len (S : St) (o : Option Nat) (i : Nat) : (kidsF S o i).length = fO S o - i := by unfold kidsF; rw [List.length_map, List.length_range']
theorem kc_le {S : St} (hG : GW S) (u t : Nat) : kc S u t ≤ 3 := by
  have h1 := ct_le (kids S u) t
  have h2 : (kids S u).length = fO S (some u) - 0 := kidsF_len S (some u) 0
  have h3 := fO_le hG (some u)
  unfold kc; omega
theorem kc_eq {S T : St} (e : GEq S T) : kc T = kc S := funext fun u => funext fun t => by unfold kc; rw [kids_eq e]
theorem kc_pos {S : St} {u t : Nat} : 0 < kc S u t ↔ some t ∈ kids S u := ct_pos
def nfF (S : St) (t : Nat) : Nat → Nat := fun u => if hB S 42 u = true then kc S u t else 0
def nf (S : St) (t : Nat) : Nat := sm (nfF S t) (cN S)
def nr (S : St) (t : Nat) : Nat := ct (rtsF S (-1) 0) t
theorem nr_le (S : St) (t : Nat) : nr S t ≤ 6 := by
  have h1 := ct_le (rtsF S (-1) 0) t
  have h2 : (rtsF S (-1) 0).length = 6 - 0 := by unfold rtsF; rw [List.length_map, List.length_range']
  unfold nr; omega
theorem nr_pos {S : St} {t : Nat} : 0 < nr S t ↔ ∃ r, r < 6 ∧ rtO S r = some t := by unfold nr; rw [ct_pos, mem_rts]
theorem nf_le {S : St} (hG : GW S) (t : Nat) : nf S t ≤ 240 := by
  have h80 := hG.2.1
  have := sm_le (f := nfF S t) (c := 3) (n := cN S) (fun i _ => by
    unfold nfF
    split
    · exact kc_le hG i t
    · omega)
  unfold nf; omega
theorem nf_one {S : St} {u t : Nat} (hu : u < cN S) (hh : hB S 42 u = true) : kc S u t ≤ nf S t := by
  have := sm_one (f := nfF S t) hu
  unfold nfF at this
  rw [if_pos hh] at this
  exact this
theorem nr_eq {S T : St} (e : GEq S T) : nr T = nr S := funext fun t => by unfold nr; rw [rtsF_eq e]
theorem nf_eq {S T : St} (e : GEq S T) (hb : ∀ t, hB T 42 t = hB S 42 t) : nf T = nf S := funext fun t => by
  have : nfF T t = nfF S t := funext fun u => by unfold nfF; rw [hb, kc_eq e]
  unfold nf; rw [this, e.c]
def fc (S : St) (L : List Nat) (t : Nat) : Nat := lsum (fun u => kc S u t) L
theorem fc_le {S : St} {L : List Nat} {t : Nat} (hn : L.Nodup) (hl : ∀ u ∈ L, u < cN S ∧ hB S 42 u = true) : fc S L t ≤ nf S t := by
  unfold fc nf
  rw [lsum_sm _ (cN S) L hn (fun u hu => (hl u hu).1)]
  refine sm_mono (fun u _ => ?_)
  unfold nfF
  by_cases q : u ∈ L
  · rw [if_pos q, if_pos (hl u q).2]; exact Nat.le_refl _
  · rw [if_neg q]; exact Nat.zero_le _
theorem fc_le' {S : St} (hG : GW S) (L : List Nat) (t : Nat) : fc S L t ≤ 3 * L.length := by
  unfold fc
  induction L with
  | nil => exact Nat.zero_le _
  | cons x L ih =>
    have := kc_le hG x t
    rw [lsum_c, List.length_cons]; omega
theorem fc_eq {S T : St} (e : GEq S T) (L : List Nat) : fc T L = fc S L := funext fun t => by unfold fc; rw [kc_eq e]
theorem fc_c (S : St) (x : Nat) (L : List Nat) (t : Nat) : fc S (x :: L) t = kc S x t + fc S L t := lsum_c _ _ _
theorem fc_a (S : St) (L M : List Nat) (t : Nat) : fc S (L ++ M) t = fc S L t + fc S M t := lsum_a _ _ _
theorem fc_pos {S : St} {L : List Nat} {t : Nat} : 0 < fc S L t ↔ ∃ u ∈ L, some t ∈ kids S u := by
  induction L with
  | nil => exact ⟨fun h => absurd h (Nat.lt_irrefl 0), fun ⟨u, h, _⟩ => (by cases h)⟩
  | cons x L ih =>
    rw [fc_c]
    constructor
    · intro h
      by_cases q : 0 < kc S x t
      · exact ⟨x, List.mem_cons_self, kc_pos.mp q⟩
      · obtain ⟨u, a, b⟩ := ih.mp (by omega)
        exact ⟨u, List.mem_cons_of_mem _ a, b⟩
    · rintro ⟨u, a, b⟩
      rcases List.mem_cons.mp a with q | q
      · have := kc_pos.mpr (q ▸ b); omega
      · have := ih.mpr ⟨u, q, b⟩; omega
/-- counts, with the names that are still to be taken away -/
def CE (S : St) (q : Nat → Nat) : Prop := ∀ t, t < cN S → hB S 42 t = true → S 46 t = nI (nf S t + nr S t + q t)
def CP (S : St) (q : Nat → Nat) : Prop := ∀ t, t < cN S → hB S 42 t = true → 1 ≤ nf S t + nr S t + q t
def CL (S : St) : Prop := (∀ u t, u < cN S → hB S 42 u = true → some t ∈ kids S u → hB S 42 t = true) ∧ (∀ r t, r < 6 → rtO S r = some t → hB S 42 t = true) ∧ HC S 42
def fL (a j : Nat) : Prop := a = 43 ∨ a = 46 ∨ a = 47 ∨ rowP 49 a j ∨ (a = 42 ∧ j = 3)
theorem geq_L {S T : St} (F : Fr fL S T) : GEq S T := GEq.of F (fun a j q => by unfold fL rowP at q; omega)
def oc1 (o : Option Nat) (t : Nat) : Nat := if o = some t then 1 else 0
theorem s_lowerOnce {S : St} {q : Nat → Nat} {L : List Nat} {W : Nat} (hG : GW S) (o : Option Nat) (ho : ∀ t, o = some t → t < cN S) (hE : CE S (fun t => q t + oc1 o t)) (hP : CP S (fun t => q t + oc1 o t)) (hC : CL S) (hq : ∀ t, q t ≤ 10000)
    (hL : RowIs S 49 L) (hLn : ∀ t ∈ L, hB S 42 t = false ∧ t < cN S) (hW : S 42 3 = nI W) :
    ∃ T L', m_Cou_lowerOnce S (oI o) = some T ∧ Fr fL S T ∧ RowIs T 49 (L ++ L') ∧ CE T (fun t => q t + fc S L' t) ∧ CP T (fun t => q t + fc S L' t) ∧ CL T ∧ (∀ t ∈ L ++ L', hB T 42 t = false ∧ t < cN T) ∧
      (∀ t, hB T 42 t = true → hB S 42 t = true) ∧ ∃ W', T 42 3 = nI W' ∧ W ≤ W' ∧ W' ≤ W + 1 := by
  have h80 := hG.2.1
  have ho8 : B80 o := fun t h => Nat.lt_of_lt_of_le (ho t h) h80
  by_cases hh : hO S 42 o = true
  · cases o with
    | none => cases hh
    | some x =>
      rw [hO_s] at hh
      have hx := ho x rfl
      have n1 := nf_le hG x
      have n2 := nr_le S x
      have n3 := hq x
      have hcx := hE x hx hh
      have e1 : S 46 x - 1 = nI (nf S x + nr S x + q x) := by
        rw [hcx]
        show nI (nf S x + nr S x + (q x + oc1 (some x) x)) - 1 = _
        rw [show oc1 (some x) x = 1 from if_pos rfl, show nf S x + nr S x + (q x + 1) = (nf S x + nr S x + q x) + 1 by omega, nI_pred]
      have hoc : ∀ t, t ≠ x → oc1 (some x) t = 0 := fun t ht => if_neg (fun z => by cases z; exact ht rfl)
      have F1 : Fr fL S (u2 (u2 S 46 x (nI (nf S x + nr S x + q x))) 42 3 (nI (W + 1))) := ((Fr.u2 _ _ _ _).mono (fun a j h => by unfold fL; omega)).tr ((Fr.u2 _ _ _ _).mono (fun a j h => by unfold fL; omega))
      unfold m_Cou_lowerOnce
      rw [o1_e (s_has (k := 42) (d := 1) (some x) ho8), hO_s, hh, if_neg (by decide), oI_s, oi_t (n_in (by omega) (by omega)), oi_t (n_in (by omega) (by omega)), oi_t (n_in (by omega) (by omega))]
      simp only [n_cl (show x < 2147483648 by omega)]
      rw [e1, u2_e, hW, nI_1]
      by_cases hz : nf S x + nr S x + q x = 0
      · rw [if_pos (by rw [hz]; decide)]
        obtain ⟨T, e2, F2, R2⟩ := s_add (S := u2 (u2 (u2 S 46 x (nI (nf S x + nr S x + q x))) 42 3 (nI (W + 1))) (42 + 1) x 0) (L := L) (k := 49) (hL.of (by rw [u2_n (by omega), u2_n (by omega), u2_n (by omega)]) (fun j => by rw [u2_n (by omega), u2_n (by omega), u2_n (by omega)]) (fun j => by rw [u2_n (by omega), u2_n (by omega), u2_n (by omega)])) (some x) ho8
        have hxL : x ∉ L := fun z => by rw [(hLn x z).1] at hh; cases hh
        rw [addL_new hxL] at R2
        rw [o1_e (s_letGo 42 1 _ (show x < 80 by omega)), ← oI_s x, o1_e e2]
        have FS : Fr fL S T := (F1.tr ((Fr.u2 _ _ _ _).mono (fun a j h => by unfold fL; omega))).tr (F2.mono (fun a j q => by unfold fL; exact Or.inr (Or.inr (Or.inr (Or.inl q)))))
        have g := geq_L FS
        have bx : hB T 42 x = false := by rw [hB_f, F2 (42 + 1) x (by unfold rowP; omega), u2_e]
        have bn : ∀ t, t ≠ x → hB T 42 t = hB S 42 t := fun t ht => by unfold hB; rw [F2 (42 + 1) t (by unfold rowP; omega), u2_n (by omega), u2_n (by omega), u2_n (by omega)]
        have cn : ∀ t, t ≠ x → T 46 t = S 46 t := fun t ht => by rw [F2 46 t (by unfold rowP; omega), u2_n (by omega), u2_n (by omega), u2_n (by omega)]
        have hnf : ∀ t, nf S t = nf T t + kc S x t := fun t => by
          have h1 := sm_upd (f := nfF S t) (g := nfF T t) (x := x) (c := kc S x t) (by unfold nfF; rw [if_pos hh, bx, if_neg (by decide)]; rfl) (fun i hi => by unfold nfF; rw [bn i hi, kc_eq g]) (n := cN S)
          rw [if_pos hx] at h1
          unfold nf; rw [h1, g.c]
        have e3 : ∀ t, fc S [x] t = kc S x t := fun t => by rw [fc_c]; rfl
        have ne : ∀ t, hB T 42 t = true → t ≠ x := fun t ht z => by rw [z, bx] at ht; cases ht
        refine ⟨T, [x], rfl, FS, R2, fun t ht hb => ?_, fun t ht hb => ?_, ⟨fun u t hu hb hk => ?_, fun r t hr h1 => ?_, fun t ht hb => ?_⟩, fun t ht => ?_, fun t ht => ?_, W + 1, ?_, by omega, by omega⟩
        · have htx := ne t hb
          rw [g.c] at ht; rw [bn t htx] at hb
          have h1 := hE t ht hb
          have h2 := hnf t
          dsimp only at h1 ⊢
          rw [hoc t htx] at h1
          rw [cn t htx, h1, nr_eq g, e3]
          congr 1; omega
        · have htx := ne t hb
          rw [g.c] at ht; rw [bn t htx] at hb
          have h1 := hP t ht hb
          have h2 := hnf t
          dsimp only at h1 ⊢
          rw [hoc t htx] at h1
          rw [nr_eq g, e3]; omega
        · have hux := ne u hb
          rw [g.c] at hu; rw [bn u hux] at hb; rw [kids_eq g] at hk
          have htx : t ≠ x := fun z => by
            have h1 := nf_one (t := x) hu hb
            have h2 := kc_pos.mpr (z ▸ hk)
            omega
          rw [bn t htx]; exact hC.1 u t hu hb hk
        · rw [g.r] at h1
          have htx : t ≠ x := fun z => by
            have h2 := nr_pos.mpr ⟨r, hr, z ▸ h1⟩
            omega
          rw [bn t htx]; exact hC.2.1 r t hr h1
        · rw [g.c]; exact hC.2.2 t ht (bn t (ne t hb) ▸ hb)
        · rcases List.mem_append.mp ht with z | z
          · have : t ≠ x := fun y => hxL (y ▸ z)
            rw [bn t this, g.c]; exact hLn t z
          · rw [List.mem_singleton.mp z]; exact ⟨bx, by rw [g.c]; exact hx⟩
        · rw [← bn t (ne t ht)]; exact ht
        · rw [F2 42 3 (by unfold rowP; omega), u2_n (by omega), u2_e]
      · rw [if_neg (by rw [show (0 : Int32) = nI 0 from rfl, n_le (by omega) (by omega)]; omega), oi_t (n_in (by omega) (by omega))]
        have FS : Fr fL S (u2 (u2 (u2 S 46 x (nI (nf S x + nr S x + q x))) 42 3 (nI (W + 1))) 47 x 1) := F1.tr ((Fr.u2 _ _ _ _).mono (fun a j h => by unfold fL; omega))
        have g := geq_L FS
        have bn : ∀ t, hB (u2 (u2 (u2 S 46 x (nI (nf S x + nr S x + q x))) 42 3 (nI (W + 1))) 47 x 1) 42 t = hB S 42 t := fun t => hB_eq (fun j => by rw [u2_n (by omega), u2_n (by omega), u2_n (by omega)]) t
        have hnf := nf_eq g bn
        refine ⟨_, [], rfl, FS, ?_, fun t ht hb => ?_, fun t ht hb => ?_, ⟨fun u t hu hb hk => ?_, fun r t hr h1 => ?_, fun t ht hb => ?_⟩, fun t ht => ?_, fun t ht => ?_, W + 1, ?_, by omega, by omega⟩
        · rw [List.append_nil]
          exact hL.of (by rw [u2_n (by omega), u2_n (by omega), u2_n (by omega)]) (fun j => by rw [u2_n (by omega), u2_n (by omega), u2_n (by omega)]) (fun j => by rw [u2_n (by omega), u2_n (by omega), u2_n (by omega)])
        · rw [g.c] at ht; rw [bn] at hb
          rw [hnf, nr_eq g, u2_n (by omega), u2_n (by omega)]
          by_cases htx : t = x
          · subst htx
            rw [u2_e]; rfl
          · have h1 := hE t ht hb
            dsimp only at h1
            rw [hoc t htx] at h1
            rw [u2_n (fun z => htx z.2), h1]; rfl
        · rw [g.c] at ht; rw [bn] at hb
          rw [hnf, nr_eq g]
          show 1 ≤ nf S t + nr S t + (q t + 0)
          by_cases htx : t = x
          · subst htx; omega
          · have h1 := hP t ht hb
            dsimp only at h1
            rw [hoc t htx] at h1; exact h1
        · rw [g.c] at hu; rw [bn] at hb ⊢; rw [kids_eq g] at hk; exact hC.1 u t hu hb hk
        · rw [g.r] at h1; rw [bn]; exact hC.2.1 r t hr h1
        · rw [g.c]; rw [bn] at hb; exact hC.2.2 t ht hb
        · rw [List.append_nil] at ht; rw [bn, g.c]; exact hLn t ht
        · rw [bn] at ht; exact ht
        · rw [u2_n (by omega), u2_e]
  · have hf := Bool.eq_false_iff.mpr hh
    unfold m_Cou_lowerOnce
    rw [o1_e (s_has (k := 42) (d := 1) o ho8), hf, if_pos (show zb false = 0 from rfl)]
    have hoc : ∀ t, hB S 42 t = true → oc1 o t = 0 := fun t ht => if_neg (fun z => by subst z; exact hh ht)
    refine ⟨S, [], rfl, Fr.rfl', by rw [List.append_nil]; exact hL, fun t ht hb => ?_, fun t ht hb => ?_, hC, fun t ht => by rw [List.append_nil] at ht; exact hLn t ht, fun _ h => h, W, hW, Nat.le_refl _, by omega⟩
    · have h1 := hE t ht hb
      dsimp only at h1
      rw [hoc t hb] at h1; exact h1
    · have h1 := hP t ht hb
      dsimp only at h1
      rw [hoc t hb] at h1; exact h1
theorem CE.congr {S : St} {p q : Nat → Nat} (h : CE S p) (e : ∀ t, p t = q t) : CE S q := fun t a b => by rw [← e]; exact h t a b
theorem CP.congr {S : St} {p q : Nat → Nat} (h : CP S p) (e : ∀ t, p t = q t) : CP S q := fun t a b => by rw [← e]; exact h t a b
theorem s_lower43 {x : Nat} : ∀ (n i : Nat) (S : St) (q : Nat → Nat) (L : List Nat) (W : Nat), GW S → x < cN S → CE S (fun t => q t + ct (kidsF S (some x) i) t) → CP S (fun t => q t + ct (kidsF S (some x) i) t) → CL S → (∀ t, q t ≤ 5000 + 300 * i) → RowIs S 49 L → (∀ t ∈ L, hB S 42 t = false ∧ t < cN S) → S 42 3 = nI W → i ≤ 3 → 3 - i < n →
    ∃ T L', m_Cou_lower_L43 n S (nI x) (nI i) = some T ∧ Fr fL S T ∧ RowIs T 49 (L ++ L') ∧ CE T (fun t => q t + fc S L' t) ∧ CP T (fun t => q t + fc S L' t) ∧ CL T ∧ (∀ t ∈ L ++ L', hB T 42 t = false ∧ t < cN T) ∧
      (∀ t, hB T 42 t = true → hB S 42 t = true) ∧ ∃ W', T 42 3 = nI W' ∧ W ≤ W' ∧ W' ≤ W + (3 - i) := by
  intro n
  induction n with
  | zero => intro i S q L W _ _ _ _ _ _ _ _ _ h1 h2; omega
  | succ n ih =>
    intro i S q L W hG hx hE hP hC hq hL hLn hW h1 h2
    have h80 := hG.2.1
    have hf := fO_le hG (some x)
    rw [m_Cou_lower_L43, ← oI_s x, o1_e (s_fieldsOf hG (some x) (b_s (by omega)))]
    by_cases hi : fO S (some x) ≤ i
    · rw [if_pos (by rw [n_le (by omega) (by omega)]; exact hi)]
      rw [kidsF_end hi] at hE hP
      exact ⟨S, [], rfl, Fr.rfl', by rw [List.append_nil]; exact hL, hE, hP, hC, fun t ht => by rw [List.append_nil] at ht; exact hLn t ht, fun _ h => h, W, hW, Nat.le_refl _, by omega⟩
    · rw [kidsF_cons (by omega)] at hE hP
      rw [if_neg (by rw [n_le (by omega) (by omega)]; exact hi), o1_e (s_nameOf hG (some x) (b_s (by omega)) i (by omega))]
      have hb3 : ∀ t, ct (kidsF S (some x) (i + 1)) t ≤ 3 := fun t => by
        have a := ct_le (kidsF S (some x) (i + 1)) t
        rw [kidsF_len] at a; omega
      obtain ⟨T, L1, e, F, R1, E1, P1, C1, N1, B1, W1, w1, w2, w3⟩ := s_lowerOnce (q := fun t => q t + ct (kidsF S (some x) (i + 1)) t) hG (nmQ S (some x) i) (fun u hu => hG.b_nq _ i u hu)
        (hE.congr (fun t => by rw [ct_c]; unfold oc1; omega)) (hP.congr (fun t => by rw [ct_c]; unfold oc1; omega)) hC (fun t => by have := hq t; have := hb3 t; omega) hL hLn hW
      have g := geq_L F
      rw [o1_e e, nI_1, oI_s]
      by_cases hlen : L1.length ≤ 80
      · obtain ⟨U, L2, e2, F2, R2, E2, P2, C2, N2, B2, W2, v1, v2, v3⟩ := ih (i + 1) T (fun t => q t + fc S L1 t) (L ++ L1) W1 (hG.eq g) (by rw [g.c]; exact hx)
          (E1.congr (fun t => by rw [kidsF_eq g]; omega)) (P1.congr (fun t => by rw [kidsF_eq g]; omega)) C1 (fun t => by have := hq t; have := fc_le' hG L1 t; omega) R1 N1 w1 (by omega) (by omega)
        refine ⟨U, L1 ++ L2, e2, F.tr F2, by rw [← List.append_assoc]; exact R2, E2.congr (fun t => by rw [fc_a, fc_eq g]; omega), P2.congr (fun t => by rw [fc_a, fc_eq g]; omega), C2, by rw [← List.append_assoc]; exact N2, fun t ht => B1 t (B2 t ht), W2, v1, by omega, by omega⟩
      · have := R1.len
        rw [List.length_append] at this
        omega
