/-! the graph changes -/
theorem oN_m1 : oN (-1) = none := if_pos (by decide)
theorem s_add42 {c : Nat} (hc : c < 80) : ∀ (n i : Nat) (S : St), i ≤ 3 → 3 - i < n → ∃ T, m_Gr_addThing_L42 n S (nI c) (nI i) = some T ∧ Fr (fun a j => a = 3 ∧ c * 3 ≤ j ∧ j < c * 3 + 3) S T ∧ (∀ j, i ≤ j → j < 3 → T 3 (c * 3 + j) = -1) ∧ ∀ j, j < i → T 3 (c * 3 + j) = S 3 (c * 3 + j) := by
  intro n
  induction n with
  | zero => intro i S h1 h2; omega
  | succ n ih =>
    intro i S h1 h2
    rw [m_Gr_addThing_L42]
    by_cases hi : i = 3
    · subst hi
      exact ⟨S, if_pos (by decide), Fr.rfl', fun j h3 h4 => by omega, fun j _ => rfl⟩
    · rw [if_neg (by rw [show (3 : Int32) = nI 3 from rfl, n_le (by omega) (by omega)]; omega), show (3 : Int32) = nI 3 from rfl, pk_mul, nI_add, oi_t (n_in (by omega) (by omega)), nI_1, n_cl (by omega)]
      obtain ⟨T, e, hF, h3, h4⟩ := ih (i + 1) (u2 S 3 (c * 3 + i) (-1)) (by omega) (by omega)
      refine ⟨T, e, ((Fr.u2 _ _ _ _).mono (fun a j h => by omega)).tr hF, fun j h5 h6 => ?_, fun j h5 => ?_⟩
      · by_cases hj : j = i
        · subst hj; rw [h4 j (by omega), u2_e]
        · exact h3 j (by omega) h6
      · rw [h4 j (by omega), u2_n (by omega)]
theorem s_addThing {S : St} (hG : GI S) {f : Nat} (hf : f ≤ 3) (hc : cN S < 80) : ∃ T, m_Gr_addThing S (nI f) = some (nI (cN S), T) ∧ Fr (fun a j => (a = 1 ∧ j = 6) ∨ a = 2 ∨ a = 3 ∨ a = 5) S T ∧ GI T ∧ cN T = cN S + 1 ∧
    (∀ t, t < cN S → wN T t = wN S t) ∧ (∀ r, rtO T r = rtO S r) ∧ (∀ t u, some u ∈ kids T t ↔ some u ∈ kids S t) ∧ (∀ t, t ∈ rcL T ↔ t ∈ rcL S) ∧ ∀ t, t < cN S → kids T t = kids S t := by
  have hw := hG.1
  obtain ⟨T, e, F, h1, -⟩ := s_add42 hc 200 0 (u2 (u2 (u2 S 1 6 (nI (cN S + 1))) 2 (cN S) (nI f)) 5 (cN S) (-1)) (by omega) (by omega)
  have FS : Fr (fun a j => (a = 1 ∧ j = 6) ∨ a = 2 ∨ a = 3 ∨ a = 5) S T := ((((Fr.u2 _ _ _ _).mono (fun a j h => by omega)).tr ((Fr.u2 _ _ _ _).mono (fun a j h => by omega))).tr ((Fr.u2 _ _ _ _).mono (fun a j h => by omega))).tr (F.mono (fun a j h => by omega))
  have z16 : T 1 6 = nI (cN S + 1) := by rw [F 1 6 (by omega), u2_n (by omega), u2_n (by omega), u2_e]
  have zc : cN T = cN S + 1 := by unfold cN; rw [z16, n_cl (by omega)]; rfl
  have z2 : ∀ t, t ≠ cN S → T 2 t = S 2 t := fun t ht => by rw [F 2 t (by omega), u2_n (by omega), u2_n (by omega), u2_n (by omega)]
  have z2c : T 2 (cN S) = nI f := by rw [F 2 _ (by omega), u2_n (by omega), u2_e]
  have z3 : ∀ t i, t < cN S → i < 3 → T 3 (t * 3 + i) = S 3 (t * 3 + i) := fun t i ht hi => by rw [F 3 _ (by omega), u2_n (by omega), u2_n (by omega), u2_n (by omega)]
  have z5 : ∀ t, t ≠ cN S → T 5 t = S 5 t := fun t ht => by rw [F 5 t (by omega), u2_n (by omega), u2_n (by omega), u2_n (by omega)]
  have z5c : T 5 (cN S) = -1 := by rw [F 5 _ (by omega), u2_e]
  have z4 : ∀ j, T 4 j = S 4 j := fun j => FS _ _ (by omega)
  have fN1 : ∀ t, t < cN S → fN T t = fN S t := fun t ht => by unfold fN; rw [z2 t (by omega)]
  have fNc : fN T (cN S) = f := by unfold fN; rw [z2c, n_cl (by omega)]
  have nm1 : ∀ t i, t < cN S → i < 3 → nmO T t i = nmO S t i := fun t i ht hi => by unfold nmO; rw [z3 t i ht hi]
  have nmc : ∀ i, i < 3 → nmO T (cN S) i = none := fun i hi => by unfold nmO; rw [h1 i (Nat.zero_le _) hi]; exact oN_m1
  have rt1 : ∀ r, rtO T r = rtO S r := fun r => by unfold rtO; rw [z4]
  have hwT : GW T := by
    refine ⟨by rw [zc]; exact z16, by omega, fun t ht => ?_, fun r hr => ?_⟩
    · by_cases htc : t = cN S
      · subst htc
        refine ⟨by rw [fNc]; exact z2c, by rw [fNc]; exact hf, fun i hi => ⟨by rw [nmc i hi]; exact h1 i (Nat.zero_le _) hi, fun u hu => by rw [nmc i hi] at hu; cases hu⟩⟩
      · obtain ⟨a, b, c⟩ := hw.2.2.1 t (by omega)
        refine ⟨by rw [fN1 t (by omega), z2 t htc]; exact a, by rw [fN1 t (by omega)]; exact b, fun i hi => ?_⟩
        rw [nm1 t i (by omega) hi, z3 t i (by omega) hi, zc]
        exact ⟨(c i hi).1, fun u hu => by have := (c i hi).2 u hu; omega⟩
    · rw [rt1, z4, zc]
      exact ⟨(hw.2.2.2 r hr).1, fun u hu => by have := (hw.2.2.2 r hr).2 u hu; omega⟩
  have hk : ∀ t u, some u ∈ kids T t ↔ some u ∈ kids S t := fun t u => by
    rw [mem_kids, mem_kids, zc]
    constructor
    · rintro ⟨a, i, b, c⟩
      by_cases htc : t = cN S
      · subst htc
        rw [nmc i (by rw [fNc] at b; omega)] at c; cases c
      · rw [fN1 t (by omega)] at b
        have := (hw.2.2.1 t (by omega)).2.1
        rw [nm1 t i (by omega) (by omega)] at c
        exact ⟨by omega, i, b, c⟩
    · rintro ⟨a, i, b, c⟩
      have := (hw.2.2.1 t a).2.1
      exact ⟨by omega, i, by rw [fN1 t a]; exact b, by rw [nm1 t i a (by omega)]; exact c⟩
  have hrc : ∀ t, t ∈ rcL T ↔ t ∈ rcL S := rc_same (fun r _ => rt1 r) hw hwT (fun t _ u => hk t u)
  have hkk : ∀ t, t < cN S → kids T t = kids S t := fun t ht => by
    have hft := (hw.2.2.1 t ht).2.1
    unfold kids kidsF
    rw [fO_s, fO_s, if_pos ht, if_pos (show t < cN T by omega), fN1 t ht]
    refine List.map_congr_left (fun j hj => ?_)
    have hj2 := List.mem_range'_1.mp hj
    rw [nmQ_s, nmQ_s, fN1 t ht, if_pos ⟨by omega, by omega⟩, if_pos ⟨ht, by omega⟩, nm1 t j ht (by omega)]
  refine ⟨T, ?_, FS, ⟨hwT, fun t ht => ?_, fun t ht h0 => ?_⟩, zc, fun t ht => by unfold wN; rw [fN1 t ht], rt1, hk, hrc, hkk⟩
  · unfold m_Gr_addThing
    rw [hw.1, if_pos (by rw [show (80 : Int32) = nI 80 from rfl, n_lt (by omega) (by omega)]; exact hc), oi_t (n_in (by omega) (by omega)), oi_t (n_in (by omega) (by omega)), nI_1]
    simp only [n_cl (show cN S < 2147483648 by omega)]
    rw [o1_e (show m_Gr_addThing_L42 200 (u2 (u2 (u2 S 1 6 (nI (cN S + 1))) 2 (cN S) (nI f)) 5 (cN S) (-1)) (nI (cN S)) 0 = some T from e)]
  · rw [hrc]
    by_cases htc : t = cN S
    · subst htc
      rw [z5c]
      exact ⟨fun z => absurd rfl z, fun z => absurd (rc_lt hw _ z) (Nat.lt_irrefl _)⟩
    · rw [z5 t htc]; exact hG.2.1 t (by omega)
  · by_cases htc : t = cN S
    · subst htc
      rw [z5c] at h0; exact absurd h0 (by decide)
    · rw [z5 t htc] at h0
      obtain ⟨r, a, b⟩ := hG.2.2 t (by omega) h0
      exact ⟨r, a, by rw [rt1]; exact b⟩
/-- what a renaming leaves -/
def GS (S T : St) : Prop := GI T ∧ cN T = cN S ∧ (∀ t, wN T t = wN S t) ∧ ∀ a j, 8 < a → T a j = S a j
theorem s_gNameByRoot {S : St} (hG : GW S) {r : Nat} (hr : r < 6) (o : Option Nat) (ho : ∀ t, o = some t → t < cN S) : ∃ T, m_Gr_nameByRoot S (nI r) (oI o) = some T ∧ Fr (fun a _ => 3 < a ∧ a < 9) S T ∧ GI T ∧ cN T = cN S ∧ (∀ t, wN T t = wN S t) ∧
    rtO T r = o ∧ (∀ r', r' ≠ r → rtO T r' = rtO S r') ∧ kids T = kids S := by
  have h80 := hG.2.1
  have ho' : ∀ t, o = some t → t < 2147483648 := fun t h => by have := ho t h; omega
  have F1 : Fr (fun a j => a = 4 ∧ j = r) S (u2 S 4 r (oI o)) := Fr.u2 _ _ _ _
  have c1 : cN (u2 S 4 r (oI o)) = cN S := by unfold cN; rw [u2_n (by omega)]
  have f1 : ∀ t, fN (u2 S 4 r (oI o)) t = fN S t := fun t => by unfold fN; rw [u2_n (by omega)]
  have n1 : ∀ t i, nmO (u2 S 4 r (oI o)) t i = nmO S t i := fun t i => by unfold nmO; rw [u2_n (by omega)]
  have r1 : rtO (u2 S 4 r (oI o)) r = o := by unfold rtO; rw [u2_e, oN_oI ho']
  have r2 : ∀ r', r' ≠ r → rtO (u2 S 4 r (oI o)) r' = rtO S r' := fun r' h => by unfold rtO; rw [u2_n (by omega)]
  have hw1 : GW (u2 S 4 r (oI o)) := by
    refine ⟨by rw [c1, u2_n (by omega)]; exact hG.1, by rw [c1]; exact h80, fun t ht => ?_, fun r' hr' => ?_⟩
    · rw [c1] at ht ⊢
      obtain ⟨a, b, c⟩ := hG.2.2.1 t ht
      refine ⟨by rw [f1, u2_n (by omega)]; exact a, by rw [f1]; exact b, fun i hi => ?_⟩
      rw [n1, u2_n (by omega)]; exact c i hi
    · rw [c1]
      by_cases q : r' = r
      · subst q; rw [r1, u2_e]; exact ⟨rfl, ho⟩
      · rw [r2 r' q, u2_n (by omega)]; exact hG.2.2.2 r' hr'
  have k1 : kids (u2 S 4 r (oI o)) = kids S := by
    funext t
    unfold kids kidsF
    have a1 : fO (u2 S 4 r (oI o)) (some t) = fO S (some t) := by rw [fO_s, fO_s, c1, f1]
    have a2 : nmQ (u2 S 4 r (oI o)) (some t) = nmQ S (some t) := funext fun i => by rw [nmQ_s, nmQ_s, c1, f1, n1]
    rw [a1, a2]
  obtain ⟨T, e, F, hT⟩ := s_measure hw1
  have g := GEq.of F (fun a j q => by unfold rowP at q; omega)
  unfold m_Gr_nameByRoot
  rw [if_neg (n_nneg (by omega)), if_neg (by rw [show (6 : Int32) = nI 6 from rfl, n_le (by omega) (by omega)]; omega), oi_t (n_in (by omega) (by omega)), n_cl (by omega), o1_e e]
  exact ⟨T, rfl, (F1.mono (fun a j q => by omega)).tr (F.mono (fun a j q => by unfold rowP at q; omega)), hT, by rw [g.c, c1], fun t => by unfold wN; rw [g.f, f1], by rw [g.r]; exact r1, fun r' h => by rw [g.r]; exact r2 r' h, by rw [kids_eq g]; exact k1⟩
theorem s_hasField {S : St} (hG : GW S) {x i : Nat} (hx : x < cN S) (hi : i < fN S x) : m_Gr_hasField S (nI x) (nI i) = some 1 := by
  have h80 := hG.2.1
  have hf := hG.2.2.1 x hx
  unfold m_Gr_hasField
  rw [if_neg (n_nneg (by omega)), hG.1, if_neg (by rw [n_le (by omega) (by omega)]; omega), if_neg (n_nneg (by omega)), oi_t (n_in (by omega) (by omega)), n_cl (by omega), hf.1, if_neg (by rw [n_le (by omega) (by omega)]; omega)]
theorem s_gNameByField {S : St} (hG : GW S) {x i : Nat} (hx : x < cN S) (hi : i < fN S x) (o : Option Nat) (ho : ∀ t, o = some t → t < cN S) : ∃ T, m_Gr_nameByField S (nI x) (nI i) (oI o) = some T ∧ Fr (fun a _ => a = 3 ∨ (4 < a ∧ a < 9)) S T ∧ GI T ∧ cN T = cN S ∧ (∀ t, fN T t = fN S t) ∧
    nmO T x i = o ∧ (∀ t j, t < cN S → j < 3 → ¬ (t = x ∧ j = i) → nmO T t j = nmO S t j) ∧ ∀ r, rtO T r = rtO S r := by
  have h80 := hG.2.1
  have hf := (hG.2.2.1 x hx).2.1
  have ho' : ∀ t, o = some t → t < 2147483648 := fun t h => by have := ho t h; omega
  have F1 : Fr (fun a j => a = 3 ∧ j = x * 3 + i) S (u2 S 3 (x * 3 + i) (oI o)) := Fr.u2 _ _ _ _
  have c1 : cN (u2 S 3 (x * 3 + i) (oI o)) = cN S := by unfold cN; rw [u2_n (by omega)]
  have f1 : ∀ t, fN (u2 S 3 (x * 3 + i) (oI o)) t = fN S t := fun t => by unfold fN; rw [u2_n (by omega)]
  have r1 : ∀ r, rtO (u2 S 3 (x * 3 + i) (oI o)) r = rtO S r := fun r => by unfold rtO; rw [u2_n (by omega)]
  have n1 : nmO (u2 S 3 (x * 3 + i) (oI o)) x i = o := by unfold nmO; rw [u2_e, oN_oI ho']
  have n2 : ∀ t j, j < 3 → ¬ (t = x ∧ j = i) → nmO (u2 S 3 (x * 3 + i) (oI o)) t j = nmO S t j := fun t j hj h => by unfold nmO; rw [u2_n (by omega)]
  have hw1 : GW (u2 S 3 (x * 3 + i) (oI o)) := by
    refine ⟨by rw [c1, u2_n (by omega)]; exact hG.1, by rw [c1]; exact h80, fun t ht => ?_, fun r hr => by rw [r1, u2_n (by omega), c1]; exact hG.2.2.2 r hr⟩
    rw [c1] at ht ⊢
    obtain ⟨a, b, c⟩ := hG.2.2.1 t ht
    refine ⟨by rw [f1, u2_n (by omega)]; exact a, by rw [f1]; exact b, fun j hj => ?_⟩
    by_cases q : t = x ∧ j = i
    · obtain ⟨rfl, rfl⟩ := q
      rw [n1, u2_e]; exact ⟨rfl, ho⟩
    · rw [n2 t j hj q, u2_n (by omega)]; exact c j hj
  obtain ⟨T, e, F, hT⟩ := s_measure hw1
  have g := GEq.of F (fun a j q => by unfold rowP at q; omega)
  unfold m_Gr_nameByField
  rw [o1_e (s_hasField hG hx hi), if_neg (by decide), show (3 : Int32) = nI 3 from rfl, pk_mul, nI_add, oi_t (n_in (by omega) (by omega)), n_cl (by omega), o1_e e]
  exact ⟨T, rfl, (F1.mono (fun a j q => by omega)).tr (F.mono (fun a j q => by unfold rowP at q; omega)), hT, by rw [g.c, c1], fun t => by rw [g.f, f1], by rw [g.n]; exact n1, fun t j _ hj h => by rw [g.n]; exact n2 t j hj h, fun r => by rw [g.r, r1]⟩
