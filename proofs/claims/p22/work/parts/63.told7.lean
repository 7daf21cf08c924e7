/-! the stores, told: broken or not; what is free together -/
theorem s_asN (S : St) (v : Int32) : m_Te_asNumber S v = some (if v = 0 then 0 else 1) := by
  unfold m_Te_asNumber
  by_cases h : v = 0
  · rw [if_pos h, if_pos h]
  · rw [if_neg h, if_neg h]
theorem s_told7 {S : St} {s : Nat} (hs : s < 4) : m_Te_told S (nI s) 7 = some (if S (kS s) (dS s + 5) = 0 then 0 else 1, S) := by
  have h : s = 0 ∨ s = 1 ∨ s = 2 ∨ s = 3 := by omega
  unfold m_Te_told
  rw [o1_e (s_storeOf S hs)]
  rcases h with rfl | rfl | rfl | rfl
  · rw [if_pos (by decide), o1_e (show m_Te_checkWhat S 7 7 = some () from rfl), if_neg (by decide), if_neg (by decide), if_neg (by decide), if_neg (by decide), if_neg (by decide), if_neg (by decide), if_neg (by decide), o1_e (s_asN S _)]; rfl
  · rw [if_neg (by decide), if_pos (by decide), o1_e (show m_Te_checkWhat S 7 7 = some () from rfl), if_neg (by decide), if_neg (by decide), if_neg (by decide), if_neg (by decide), if_neg (by decide), if_neg (by decide), if_neg (by decide), o1_e (s_asN S _)]; rfl
  · rw [if_neg (by decide), if_neg (by decide), if_pos (by decide), o1_e (show m_Te_checkWhat S 7 7 = some () from rfl), if_neg (by decide), if_neg (by decide), if_neg (by decide), if_neg (by decide), if_neg (by decide), if_neg (by decide), if_neg (by decide), o1_e (s_asN S _)]; rfl
  · rw [if_neg (by decide), if_neg (by decide), if_neg (by decide), if_pos (by decide), o1_e (show m_Te_checkWhat S 7 7 = some () from rfl), if_neg (by decide), if_neg (by decide), if_neg (by decide), if_neg (by decide), if_neg (by decide), if_neg (by decide), if_neg (by decide), o1_e (s_asN S _)]; rfl
