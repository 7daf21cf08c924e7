/-! the stores, asked -/
def kS (s : Nat) : Nat := if s = 0 then 12 else if s = 1 then 18 else if s = 2 then 31 else 42
def dS (s : Nat) : Nat := if s = 0 then 0 else if s = 1 then 0 else 1
theorem s_storeOf (S : St) {s : Nat} (hs : s < 4) : m_Te_storeOf S (nI s) = some (kS s) := by
  have h : s = 0 ∨ s = 1 ∨ s = 2 ∨ s = 3 := by omega
  rcases h with rfl | rfl | rfl | rfl <;> rfl
theorem s_checkThing {S : St} (hG : GW S) {t : Nat} (ht : t < cN S) : m_Te_checkThing S (nI t) = some () := by
  unfold m_Te_checkThing
  rw [o1_e (s_isThingN hG ht), if_neg (by decide)]
theorem s_at {S : St} (hG : GW S) {s t : Nat} (hs : s < 4) (ht : t < cN S) : m_Te_at S (nI s) (nI t) = some (if hB S (kS s) t = true then S (kS s + 2) t else -1) := by
  have h80 := hG.2.1
  have h : s = 0 ∨ s = 1 ∨ s = 2 ∨ s = 3 := by omega
  unfold m_Te_at
  rw [o1_e (s_storeOf S hs)]
  rcases h with rfl | rfl | rfl | rfl
  · rw [if_pos (by decide), o1_e (s_checkThing hG ht), o1_e (s_placeOf 12 0 S (show t < 80 by omega))]; rfl
  · rw [if_neg (by decide), if_pos (by decide), o1_e (s_checkThing hG ht), o1_e (s_placeOf 18 0 S (show t < 80 by omega))]; rfl
  · rw [if_neg (by decide), if_neg (by decide), if_pos (by decide), o1_e (s_checkThing hG ht), o1_e (s_placeOf 31 1 S (show t < 80 by omega))]; rfl
  · rw [if_neg (by decide), if_neg (by decide), if_neg (by decide), if_pos (by decide), o1_e (s_checkThing hG ht), o1_e (s_placeOf 42 1 S (show t < 80 by omega))]; rfl
theorem s_of0 {S : St} (hG : GW S) {t : Nat} (ht : t < cN S) : m_Te_ofThing S (nI t) 0 = some (nI (fN S t)) := by
  have h80 := hG.2.1
  unfold m_Te_ofThing
  rw [o1_e (s_checkThing hG ht), o1_e (show m_Te_checkWhat S 0 2 = some () from rfl), if_pos rfl, ← oI_s t, o1_e (s_fieldsOf hG (some t) (b_s (by omega))), fO_s, if_pos ht]
theorem s_of1 {S : St} (hG : GI S) {t : Nat} (ht : t < cN S) : m_Te_ofThing S (nI t) 1 = some (zb (decide (t ∈ rcL S))) := by
  have h80 := hG.1.2.1
  unfold m_Te_ofThing
  rw [o1_e (s_checkThing hG.1 ht), o1_e (show m_Te_checkWhat S 1 2 = some () from rfl), if_neg (by decide), if_pos rfl, o1_e (s_isReached hG (show t < 80 by omega))]
  by_cases q : t ∈ rcL S
  · rw [decide_eq_true q]; rfl
  · rw [decide_eq_false q]; rfl
theorem s_of2 {S : St} (hG : GW S) {t : Nat} (ht : t < cN S) : m_Te_ofThing S (nI t) 2 = some (S 5 t) := by
  unfold m_Te_ofThing
  rw [o1_e (s_checkThing hG ht), o1_e (show m_Te_checkWhat S 2 2 = some () from rfl), if_neg (by decide), if_neg (by decide), o1_e (s_distanceOf hG ht)]
