/-! store 2 -/
def clO (S : St) : Option Nat → Int32
  | none => -1
  | some t => if hB S 31 t = true ∧ t < cN S then S 35 t else -1
theorem clO_s (S : St) (t : Nat) : clO S (some t) = if hB S 31 t = true ∧ t < cN S then S 35 t else -1 := rfl
theorem s_colourOf {S : St} (hG : GW S) (o : Option Nat) (ho : B80 o) : m_Mar_colourOf S (oI o) = some (clO S o) := by
  unfold m_Mar_colourOf
  rw [o1_e (s_has (k := 31) (d := 1) o ho)]
  cases o with
  | none => exact if_pos rfl
  | some t =>
    have ht := ho t rfl
    rw [hO_s, clO_s]
    by_cases h : hB S 31 t = true
    · rw [h, if_neg (by decide), o1_e (s_isThing hG (some t) ho), isT_s]
      by_cases hc : t < cN S
      · rw [decide_eq_true hc, if_neg (by decide), if_pos ⟨rfl, hc⟩, oI_s, oi_t (n_in (by omega) (by omega)), n_cl (by omega)]
      · rw [decide_eq_false hc, if_pos (show zb false = 0 from rfl), if_neg (fun z => hc z.2)]
    · rw [Bool.eq_false_iff.mpr h, if_pos (show zb false = 0 from rfl), if_neg (fun z => Bool.noConfusion z.1)]
theorem clO_0 {S : St} {t : Nat} : clO S (some t) = 0 ↔ hB S 31 t = true ∧ t < cN S ∧ S 35 t = 0 := by
  rw [clO_s]
  constructor
  · intro h
    split at h
    · rename_i q; exact ⟨q.1, q.2, h⟩
    · exact absurd h (by decide)
  · rintro ⟨a, b, c⟩
    rw [if_pos ⟨a, b⟩, c]
theorem s_paint {S : St} (hG : GW S) {t : Nat} (ht : t < cN S) (v : Int32) : m_Mar_paint S (nI t) v = some (u2 S 35 t v) := by
  have h80 := hG.2.1
  unfold m_Mar_paint
  rw [o1_e (s_isThingN hG ht), if_neg (by decide), oi_t (n_in (by omega) (by omega)), n_cl (by omega)]
def wfo (w : Nat → Bool) : Option Nat → Option Nat
  | none => none
  | some u => if w u = true then some u else none
theorem wfo_s (w : Nat → Bool) (u : Nat) : wfo w (some u) = if w u = true then some u else none := rfl
theorem wfo_e {w : Nat → Bool} {o : Option Nat} {u : Nat} : wfo w o = some u ↔ o = some u ∧ w u = true := by
  cases o with
  | none => constructor
            · intro h; cases h
            · intro h; cases h.1
  | some t =>
    rw [wfo_s]
    constructor
    · intro h
      split at h
      · rename_i q; cases h; exact ⟨rfl, q⟩
      · cases h
    · rintro ⟨h, q⟩
      cases h
      exact if_pos q
def WH (S : St) (w : Nat → Bool) (R : List Nat) : Prop := ∀ t, t < 80 → (clO S (some t) = 0 ↔ w t = true ∧ t ∉ R)
def fG (a j : Nat) : Prop := a = 35 ∨ rowP 36 a j
theorem geq_G {S T : St} (F : Fr fG S T) : GEq S T := GEq.of F (fun a j q => by unfold fG rowP at q; omega)
theorem hB_G {S T : St} (F : Fr fG S T) (t : Nat) : hB T 31 t = hB S 31 t := hB_eq (fun j => F _ _ (by unfold fG rowP; omega)) t
theorem s_bg {S : St} {w : Nat → Bool} {R : List Nat} (hG : GW S) (hR : RowIs S 36 R) (hW : WH S w R) (o : Option Nat) (ho : B80 o) :
    ∃ T, m_Mar_becomeGrey S (oI o) = some T ∧ Fr fG S T ∧ RowIs T 36 (addL R (wfo w o)) ∧ WH T w (addL R (wfo w o)) ∧ ∀ t, t < 80 → T 35 t = if t ∈ addL R (wfo w o) ∧ t ∉ R then 1 else S 35 t := by
  have same : clO S o ≠ 0 → addL R (wfo w o) = R → ∃ T, m_Mar_becomeGrey S (oI o) = some T ∧ Fr fG S T ∧ RowIs T 36 (addL R (wfo w o)) ∧ WH T w (addL R (wfo w o)) ∧ ∀ t, t < 80 → T 35 t = if t ∈ addL R (wfo w o) ∧ t ∉ R then 1 else S 35 t := by
    intro h e
    unfold m_Mar_becomeGrey
    rw [o1_e (s_colourOf hG o ho), if_neg h, e]
    exact ⟨S, rfl, Fr.rfl', hR, hW, fun t _ => by rw [if_neg (fun z => z.2 z.1)]⟩
  cases o with
  | none => exact same (by show (-1 : Int32) ≠ 0; decide) rfl
  | some u =>
    have hu := ho u rfl
    by_cases h : clO S (some u) = 0
    · obtain ⟨hw, hn⟩ := (hW u hu).mp h
      obtain ⟨hh, hc, h35⟩ := clO_0.mp h
      have g1 : GEq S (u2 S 35 u 1) := ⟨rfl, fun _ => rfl, fun _ => rfl, fun _ => rfl⟩
      have F1 : Fr (fun a _ => a = 35) S (u2 S 35 u 1) := (Fr.u2 _ _ _ _).mono (fun a j q => q.1)
      obtain ⟨T, e, F, R'⟩ := s_add (hR.fr F1 (fun a j q z => by unfold rowP at q; omega)) (some u) ho
      have ew : wfo w (some u) = some u := wfo_e.mpr ⟨rfl, hw⟩
      have FF : Fr fG S T := (F1.mono (fun a j q => Or.inl q)).tr (F.mono (fun a j q => Or.inr q))
      have col : ∀ t, t < 80 → T 35 t = if t ∈ addL R (some u) ∧ t ∉ R then 1 else S 35 t := by
        intro t ht
        rw [F 35 t (by unfold rowP; omega)]
        by_cases htu : t = u
        · subst htu
          rw [if_pos ⟨mem_addL.mpr (Or.inr rfl), hn⟩, u2_e]
        · rw [u2_n (fun z => htu z.2), if_neg]
          rintro ⟨a, b⟩
          rcases mem_addL.mp a with q | q
          · exact b q
          · cases q; exact htu rfl
      unfold m_Mar_becomeGrey
      rw [o1_e (s_colourOf hG (some u) ho), if_pos h, oI_s, o1_e (s_paint hG hc 1), ← oI_s, o1_e e, ew]
      refine ⟨T, rfl, FF, R', fun t ht => ?_, col⟩
      have gF := geq_G FF
      rw [clO_0, hB_G FF t, gF.c, col t ht]
      by_cases hm : t ∈ addL R (some u)
      · have hz : ¬ (hB S 31 t = true ∧ t < cN S ∧ (if t ∈ addL R (some u) ∧ t ∉ R then (1 : Int32) else S 35 t) = 0) := by
          rintro ⟨a, b, c⟩
          by_cases hr : t ∈ R
          · rw [if_neg (fun z => z.2 hr)] at c
            exact ((hW t ht).mp (clO_0.mpr ⟨a, b, c⟩)).2 hr
          · rw [if_pos ⟨hm, hr⟩] at c; exact absurd c (by decide)
        exact ⟨fun z => absurd z hz, fun z => absurd hm z.2⟩
      · have hr : t ∉ R := fun z => hm (mem_addL.mpr (Or.inl z))
        rw [if_neg (fun z => hm z.1), ← clO_0, hW t ht]
        exact ⟨fun z => ⟨z.1, hm⟩, fun z => ⟨z.1, hr⟩⟩
    · refine same h ?_
      by_cases hw : w u = true
      · have hr : u ∈ R := by
          by_cases q : u ∈ R
          · exact q
          · exact absurd ((hW u hu).mpr ⟨hw, q⟩) h
        rw [wfo_e.mpr ⟨rfl, hw⟩, addL_s, if_pos hr]
      · rw [wfo_s, if_neg hw]; rfl
theorem col_comp {R R1 R2 : List Nat} {a b c : Nat → Int32} (h1 : ∀ t ∈ R, t ∈ R1) (h2 : ∀ t ∈ R1, t ∈ R2) (hb : ∀ t, t < 80 → b t = if t ∈ R1 ∧ t ∉ R then 1 else a t) (hc : ∀ t, t < 80 → c t = if t ∈ R2 ∧ t ∉ R1 then 1 else b t) :
    ∀ t, t < 80 → c t = if t ∈ R2 ∧ t ∉ R then 1 else a t := by
  intro t ht
  rw [hc t ht, hb t ht]
  by_cases p : t ∈ R1
  · rw [if_neg (fun z => z.2 p)]
    by_cases q : t ∈ R
    · rw [if_neg (fun z => z.2 q), if_neg (fun z => z.2 q)]
    · rw [if_pos ⟨p, q⟩, if_pos ⟨h2 t p, q⟩]
  · have q : t ∉ R := fun z => p (h1 t z)
    rw [if_neg (fun z : t ∈ R1 ∧ t ∉ R => p z.1)]
    by_cases r : t ∈ R2
    · rw [if_pos ⟨r, p⟩, if_pos ⟨r, q⟩]
    · rw [if_neg (fun z => r z.1), if_neg (fun z => r z.1)]
theorem s_bgF {w : Nat → Bool} {x : Nat} (hx : x < 80) : ∀ (n i : Nat) (S : St) (R : List Nat), GW S → RowIs S 36 R → WH S w R → i ≤ 3 → 3 - i < n →
    ∃ T, m_Mar_step_L49 n S (nI x) (nI i) = some T ∧ Fr fG S T ∧ RowIs T 36 (addsL R ((kidsF S (some x) i).map (wfo w))) ∧ WH T w (addsL R ((kidsF S (some x) i).map (wfo w))) ∧ ∀ t, t < 80 → T 35 t = if t ∈ addsL R ((kidsF S (some x) i).map (wfo w)) ∧ t ∉ R then 1 else S 35 t := by
  intro n
  induction n with
  | zero => intro i S R _ _ _ h1 h2; omega
  | succ n ih =>
    intro i S R hG hR hW h1 h2
    have hf := fO_le hG (some x)
    rw [m_Mar_step_L49, ← oI_s x, o1_e (s_fieldsOf hG (some x) (b_s hx))]
    by_cases hi : fO S (some x) ≤ i
    · rw [if_pos (by rw [n_le (by omega) (by omega)]; exact hi), kidsF_end hi]
      exact ⟨S, rfl, Fr.rfl', hR, hW, fun t _ => by rw [if_neg (fun z => z.2 z.1)]⟩
    · rw [if_neg (by rw [n_le (by omega) (by omega)]; exact hi), o1_e (s_nameOf hG (some x) (b_s hx) i (by omega))]
      obtain ⟨T, e, F, R1, W1, C1⟩ := s_bg hG hR hW (nmQ S (some x) i) (fun u hu => Nat.lt_of_lt_of_le (hG.b_nq _ i u hu) hG.2.1)
      rw [o1_e e, nI_1, oI_s, kidsF_cons (by omega), List.map_cons]
      have g := geq_G F
      obtain ⟨U, e2, F2, R2, W2, C2⟩ := ih (i + 1) T _ (hG.eq g) R1 W1 (by omega) (by omega)
      rw [kidsF_eq g] at R2 W2 C2
      exact ⟨U, e2, F.tr F2, R2, W2, col_comp (fun t ht => mem_addL.mpr (Or.inl ht)) (fun t ht => (mem_addsL (L := addL R (wfo w (nmQ S (some x) i)))).mpr (Or.inl ht)) C1 C2⟩
theorem s_bgR {w : Nat → Bool} : ∀ (n i : Nat) (S : St) (R : List Nat), GW S → RowIs S 36 R → WH S w R → i ≤ 6 → 6 - i < n →
    ∃ T, m_Mar_beginToMark_L19 n S (nI i) = some T ∧ Fr fG S T ∧ RowIs T 36 (addsL R ((rtsF S (-1) i).map (wfo w))) ∧ WH T w (addsL R ((rtsF S (-1) i).map (wfo w))) ∧ ∀ t, t < 80 → T 35 t = if t ∈ addsL R ((rtsF S (-1) i).map (wfo w)) ∧ t ∉ R then 1 else S 35 t := by
  intro n
  induction n with
  | zero => intro i S R _ _ _ h1 h2; omega
  | succ n ih =>
    intro i S R hG hR hW h1 h2
    rw [m_Mar_beginToMark_L19]
    by_cases hi : i = 6
    · subst hi
      exact ⟨S, if_pos (by decide), Fr.rfl', hR, hW, fun t _ => by rw [if_neg (fun z => z.2 z.1)]⟩
    · rw [if_neg (by rw [show (6 : Int32) = nI 6 from rfl, n_le (by omega) (by omega)]; omega), o1_e (s_rootAt hG (by omega))]
      obtain ⟨T, e, F, R1, W1, C1⟩ := s_bg hG hR hW (rtO S i) (hG.b_rt (by omega))
      rw [o1_e e, nI_1, rtsF_cons (by omega), if_neg (m1_ne (by omega)), List.map_cons]
      have g := geq_G F
      obtain ⟨U, e2, F2, R2, W2, C2⟩ := ih (i + 1) T _ (hG.eq g) R1 W1 (by omega) (by omega)
      rw [rtsF_eq g] at R2 W2 C2
      exact ⟨U, e2, F.tr F2, R2, W2, col_comp (fun t ht => mem_addL.mpr (Or.inl ht)) (fun t ht => (mem_addsL (L := addL R (wfo w (rtO S i)))).mpr (Or.inl ht)) C1 C2⟩
def wk (S : St) (w : Nat → Bool) (t : Nat) : List (Option Nat) := (kids S t).map (wfo w)
theorem wk_eq {S T : St} (e : GEq S T) (w : Nat → Bool) : wk T w = wk S w := by unfold wk; rw [kids_eq e]
theorem mem_wk {S : St} {w : Nat → Bool} {t u : Nat} : some u ∈ wk S w t ↔ some u ∈ kids S t ∧ w u = true := by
  unfold wk
  rw [List.mem_map]
  constructor
  · rintro ⟨o, ho, e⟩
    obtain ⟨a, b⟩ := wfo_e.mp e
    exact ⟨a ▸ ho, b⟩
  · rintro ⟨a, b⟩
    exact ⟨some u, a, wfo_e.mpr ⟨rfl, b⟩⟩
def rtw (S : St) (w : Nat → Bool) : List (Option Nat) := (rtsF S (-1) 0).map (wfo w)
theorem rtw_eq {S T : St} (e : GEq S T) (w : Nat → Bool) : rtw T w = rtw S w := by unfold rtw; rw [rtsF_eq e]
theorem mem_rtw {S : St} {w : Nat → Bool} {u : Nat} : some u ∈ rtw S w ↔ (∃ r, r < 6 ∧ rtO S r = some u) ∧ w u = true := by
  unfold rtw
  rw [List.mem_map]
  constructor
  · rintro ⟨o, ho, e⟩
    obtain ⟨a, b⟩ := wfo_e.mp e
    exact ⟨mem_rts.mp (a ▸ ho), b⟩
  · rintro ⟨a, b⟩
    exact ⟨some u, mem_rts.mpr a, wfo_e.mpr ⟨rfl, b⟩⟩
/-- while it marks: the row of what became grey, and the first that still is -/
def MR (S : St) (w : Nat → Bool) (R : List Nat) (i : Nat) : Prop := RowIs S 36 R ∧ S 31 14 = nI i ∧ i ≤ R.length ∧ WH S w R ∧ (∀ t ∈ R, t < cN S ∧ hB S 31 t = true) ∧ S 31 10 ≠ 0
def fM (a j : Nat) : Prop := (a = 31 ∧ (j = 3 ∨ j = 14)) ∨ fG a j
theorem geq_M {S T : St} (F : Fr fM S T) : GEq S T := GEq.of F (fun a j q => by unfold fM fG rowP at q; omega)
theorem hB_M {S T : St} (F : Fr fM S T) (t : Nat) : hB T 31 t = hB S 31 t := hB_eq (fun j => F _ _ (by unfold fM fG rowP; omega)) t
theorem WH.fr {S T : St} {w : Nat → Bool} {R : List Nat} (h : WH S w R) (g : GEq S T) (hb : ∀ t, hB T 31 t = hB S 31 t) (h5 : ∀ t, t < 80 → (T 35 t = 0 ↔ S 35 t = 0)) : WH T w R := fun t ht => by
  rw [clO_0, hb, g.c, h5 t ht, ← clO_0]; exact h t ht
theorem s_mstep {S : St} {w : Nat → Bool} {R : List Nat} {i x W : Nat} (hG : GW S) (hM : MR S w R i) (hx : R[i]? = some x) (hW : S 31 3 = nI W) :
    ∃ T, m_Mar_step S = some T ∧ Fr fM S T ∧ MR T w (addsL R (wk S w x)) (i + 1) ∧ T 31 3 = nI (W + wN S x) ∧ ∀ t, t < 80 → T 35 t = if t ∈ addsL R (wk S w x) ∧ t ∉ R then 1 else if t = x then 2 else S 35 t := by
  obtain ⟨hR, h14, hi, hWH, hRh, h10⟩ := hM
  have h80 := hG.2.1
  have hlen := hR.len
  have hil := (List.getElem?_eq_some_iff.mp hx).1
  have hxR := List.mem_of_getElem? hx
  have hxc := (hRh x hxR).1
  have F1 : Fr fM S (u2 (u2 S 31 14 (nI (i + 1))) 35 x 2) := ((Fr.u2 _ _ _ _).mono (fun a j q => by unfold fM; omega)).tr ((Fr.u2 _ _ _ _).mono (fun a j q => by unfold fM fG; omega))
  have g0 : GEq S (u2 S 31 14 (nI (i + 1))) := ⟨rfl, fun _ => rfl, fun _ => rfl, fun _ => rfl⟩
  have g1 := geq_M F1
  have c1 : ∀ t, t < 80 → (u2 (u2 S 31 14 (nI (i + 1))) 35 x 2) 35 t = if t = x then 2 else S 35 t := fun t _ => by
    by_cases q : t = x
    · subst q; rw [u2_e, if_pos rfl]
    · rw [u2_n (fun z => q z.2), u2_n (by omega), if_neg q]
  have hW1 : WH (u2 (u2 S 31 14 (nI (i + 1))) 35 x 2) w R := fun t ht => by
    rw [clO_0, hB_M F1, g1.c, c1 t ht]
    by_cases q : t = x
    · subst q
      rw [if_pos rfl]
      exact ⟨fun z => absurd z.2.2 (by decide), fun z => absurd hxR z.2⟩
    · rw [if_neg q, ← clO_0]; exact hWH t ht
  have hR1 : RowIs (u2 (u2 S 31 14 (nI (i + 1))) 35 x 2) 36 R := hR.of (by rw [u2_n (by omega), u2_n (by omega)]) (fun j => by rw [u2_n (by omega), u2_n (by omega)]) (fun j => by rw [u2_n (by omega), u2_n (by omega)])
  obtain ⟨T, e, F2, R2, W2, C2⟩ := s_bgF (w := w) (show x < 80 by omega) 200 0 _ R (hG.eq g1) hR1 hW1 (by omega) (by omega)
  rw [kidsF_eq g1] at R2 W2 C2
  have g2 := geq_G F2
  have hw := s_wordsN ((hG.eq g1).eq g2) (t := x) (by rw [g2.c, g1.c]; exact hxc)
  rw [wN_eq g2, wN_eq g1] at hw
  have t3 : T 31 3 = nI W := by rw [F2 31 3 (by unfold fG rowP; omega), u2_n (by omega), u2_n (by omega), hW]
  have F3 : Fr fM S (u2 T 31 3 (nI (W + wN S x))) := (F1.tr (F2.mono (fun a j q => Or.inr q))).tr ((Fr.u2 _ _ _ _).mono (fun a j q => by unfold fM; omega))
  have g3 := geq_M F3
  unfold m_Mar_step
  rw [h14, hR.2.2.1, if_pos (by rw [n_lt (by omega) (by omega)]; exact hil), o1_e (s_get hR i (by omega)), hx, oI_s, nI_1, o1_e (s_paint (hG.eq g0) (by rw [g0.c]; exact hxc) 2),
    o1_e (show m_Mar_step_L49 200 _ (nI x) 0 = some T from e), o1_e hw, t3, nI_add]
  refine ⟨_, rfl, F3, ⟨?_, ?_, ?_, ?_, fun t ht => ?_, ?_⟩, by rw [u2_e], fun t ht => ?_⟩
  · exact R2.of (by rw [u2_n (by omega)]) (fun j => by rw [u2_n (by omega)]) (fun j => by rw [u2_n (by omega)])
  · rw [u2_n (by omega), F2 31 14 (by unfold fG rowP; omega), u2_n (by omega), u2_e]
  · obtain ⟨M, eM⟩ := addsL_pre (l := wk S w x) R
    rw [eM, List.length_append]; omega
  · exact WH.fr W2 ⟨rfl, fun _ => rfl, fun _ => rfl, fun _ => rfl⟩ (fun t => hB_eq (fun j => by rw [u2_n (by omega)]) t) (fun t _ => by rw [u2_n (by omega)])
  · rw [g3.c, hB_M F3]
    by_cases q : t ∈ R
    · exact hRh t q
    · have h1 := (mem_addsL.mp ht).resolve_left q
      obtain ⟨h2, h3⟩ := mem_wk.mp h1
      have ht8 : t < 80 := Nat.lt_of_lt_of_le (kids_lt hG h2) h80
      obtain ⟨a, b, -⟩ := clO_0.mp ((hWH t ht8).mpr ⟨h3, q⟩)
      exact ⟨b, a⟩
  · rw [u2_n (by omega), F2 31 10 (by unfold fG rowP; omega), u2_n (by omega), u2_n (by omega)]; exact h10
  · rw [u2_n (by omega), C2 t ht, c1 t ht]; rfl
