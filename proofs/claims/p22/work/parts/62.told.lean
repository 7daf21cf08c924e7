/-! the stores, told -/
theorem s_told0 {S : St} (hG : GI S) {s : Nat} (hs : s < 4) : m_Te_told S (nI s) 0 = some (nI (sm (had1 S (kS s)) (cN S)), S) := by
  have h : s = 0 ∨ s = 1 ∨ s = 2 ∨ s = 3 := by omega
  unfold m_Te_told
  rw [o1_e (s_storeOf S hs)]
  rcases h with rfl | rfl | rfl | rfl
  · rw [if_pos (by decide), o1_e (show m_Te_checkWhat S 0 7 = some () from rfl), if_pos (by decide), o1_e (s_countHad 12 0 hG.1)]; rfl
  · rw [if_neg (by decide), if_pos (by decide), o1_e (show m_Te_checkWhat S 0 7 = some () from rfl), if_pos (by decide), o1_e (s_countHad 18 0 hG.1)]; rfl
  · rw [if_neg (by decide), if_neg (by decide), if_pos (by decide), o1_e (show m_Te_checkWhat S 0 7 = some () from rfl), if_pos (by decide), o1_e (s_countHad 31 1 hG.1)]; rfl
  · rw [if_neg (by decide), if_neg (by decide), if_neg (by decide), if_pos (by decide), o1_e (show m_Te_checkWhat S 0 7 = some () from rfl), if_pos (by decide), o1_e (s_countHad 42 1 hG.1)]; rfl
theorem s_told1 {S : St} (hG : GI S) {s : Nat} (hs : s < 4) : m_Te_told S (nI s) 1 = some (nI (sm (hadW S (kS s)) (cN S)), S) := by
  have h : s = 0 ∨ s = 1 ∨ s = 2 ∨ s = 3 := by omega
  unfold m_Te_told
  rw [o1_e (s_storeOf S hs)]
  rcases h with rfl | rfl | rfl | rfl
  · rw [if_pos (by decide), o1_e (show m_Te_checkWhat S 1 7 = some () from rfl), if_neg (by decide), if_pos (by decide), o1_e (s_wordsHad 12 0 hG.1)]; rfl
  · rw [if_neg (by decide), if_pos (by decide), o1_e (show m_Te_checkWhat S 1 7 = some () from rfl), if_neg (by decide), if_pos (by decide), o1_e (s_wordsHad 18 0 hG.1)]; rfl
  · rw [if_neg (by decide), if_neg (by decide), if_pos (by decide), o1_e (show m_Te_checkWhat S 1 7 = some () from rfl), if_neg (by decide), if_pos (by decide), o1_e (s_wordsHad 31 1 hG.1)]; rfl
  · rw [if_neg (by decide), if_neg (by decide), if_neg (by decide), if_pos (by decide), o1_e (show m_Te_checkWhat S 1 7 = some () from rfl), if_neg (by decide), if_pos (by decide), o1_e (s_wordsHad 42 1 hG.1)]; rfl
theorem s_told2 {S : St} (hG : GI S) {s : Nat} (hs : s < 4) : m_Te_told S (nI s) 2 = some (nI (sm (hadU S (kS s)) (cN S)), S) := by
  have h : s = 0 ∨ s = 1 ∨ s = 2 ∨ s = 3 := by omega
  unfold m_Te_told
  rw [o1_e (s_storeOf S hs)]
  rcases h with rfl | rfl | rfl | rfl
  · rw [if_pos (by decide), o1_e (show m_Te_checkWhat S 2 7 = some () from rfl), if_neg (by decide), if_neg (by decide), if_pos (by decide), o1_e (s_countUn 12 0 hG)]; rfl
  · rw [if_neg (by decide), if_pos (by decide), o1_e (show m_Te_checkWhat S 2 7 = some () from rfl), if_neg (by decide), if_neg (by decide), if_pos (by decide), o1_e (s_countUn 18 0 hG)]; rfl
  · rw [if_neg (by decide), if_neg (by decide), if_pos (by decide), o1_e (show m_Te_checkWhat S 2 7 = some () from rfl), if_neg (by decide), if_neg (by decide), if_pos (by decide), o1_e (s_countUn 31 1 hG)]; rfl
  · rw [if_neg (by decide), if_neg (by decide), if_neg (by decide), if_pos (by decide), o1_e (show m_Te_checkWhat S 2 7 = some () from rfl), if_neg (by decide), if_neg (by decide), if_pos (by decide), o1_e (s_countUn 42 1 hG)]; rfl
theorem s_told3 {S : St} (hG : GI S) {s : Nat} (hs : s < 4) : m_Te_told S (nI s) 3 = some (S (kS s) (dS s + 2), S) := by
  have h : s = 0 ∨ s = 1 ∨ s = 2 ∨ s = 3 := by omega
  unfold m_Te_told
  rw [o1_e (s_storeOf S hs)]
  rcases h with rfl | rfl | rfl | rfl
  · rw [if_pos (by decide), o1_e (show m_Te_checkWhat S 3 7 = some () from rfl), if_neg (by decide), if_neg (by decide), if_neg (by decide), if_pos (by decide)]; rfl
  · rw [if_neg (by decide), if_pos (by decide), o1_e (show m_Te_checkWhat S 3 7 = some () from rfl), if_neg (by decide), if_neg (by decide), if_neg (by decide), if_pos (by decide)]; rfl
  · rw [if_neg (by decide), if_neg (by decide), if_pos (by decide), o1_e (show m_Te_checkWhat S 3 7 = some () from rfl), if_neg (by decide), if_neg (by decide), if_neg (by decide), if_pos (by decide)]; rfl
  · rw [if_neg (by decide), if_neg (by decide), if_neg (by decide), if_pos (by decide), o1_e (show m_Te_checkWhat S 3 7 = some () from rfl), if_neg (by decide), if_neg (by decide), if_neg (by decide), if_pos (by decide)]; rfl
theorem s_told4 {S : St} (hG : GI S) {s : Nat} (hs : s < 4) : m_Te_told S (nI s) 4 = some (S (kS s) (dS s + 3), S) := by
  have h : s = 0 ∨ s = 1 ∨ s = 2 ∨ s = 3 := by omega
  unfold m_Te_told
  rw [o1_e (s_storeOf S hs)]
  rcases h with rfl | rfl | rfl | rfl
  · rw [if_pos (by decide), o1_e (show m_Te_checkWhat S 4 7 = some () from rfl), if_neg (by decide), if_neg (by decide), if_neg (by decide), if_neg (by decide), if_pos (by decide)]; rfl
  · rw [if_neg (by decide), if_pos (by decide), o1_e (show m_Te_checkWhat S 4 7 = some () from rfl), if_neg (by decide), if_neg (by decide), if_neg (by decide), if_neg (by decide), if_pos (by decide)]; rfl
  · rw [if_neg (by decide), if_neg (by decide), if_pos (by decide), o1_e (show m_Te_checkWhat S 4 7 = some () from rfl), if_neg (by decide), if_neg (by decide), if_neg (by decide), if_neg (by decide), if_pos (by decide)]; rfl
  · rw [if_neg (by decide), if_neg (by decide), if_neg (by decide), if_pos (by decide), o1_e (show m_Te_checkWhat S 4 7 = some () from rfl), if_neg (by decide), if_neg (by decide), if_neg (by decide), if_neg (by decide), if_pos (by decide)]; rfl
theorem s_told6 {S : St} (hG : GI S) {s : Nat} (hs : s < 4) : m_Te_told S (nI s) 6 = some (S (kS s) (dS s + 4), S) := by
  have h : s = 0 ∨ s = 1 ∨ s = 2 ∨ s = 3 := by omega
  unfold m_Te_told
  rw [o1_e (s_storeOf S hs)]
  rcases h with rfl | rfl | rfl | rfl
  · rw [if_pos (by decide), o1_e (show m_Te_checkWhat S 6 7 = some () from rfl), if_neg (by decide), if_neg (by decide), if_neg (by decide), if_neg (by decide), if_neg (by decide), if_neg (by decide), if_pos (by decide)]; rfl
  · rw [if_neg (by decide), if_pos (by decide), o1_e (show m_Te_checkWhat S 6 7 = some () from rfl), if_neg (by decide), if_neg (by decide), if_neg (by decide), if_neg (by decide), if_neg (by decide), if_neg (by decide), if_pos (by decide)]; rfl
  · rw [if_neg (by decide), if_neg (by decide), if_pos (by decide), o1_e (show m_Te_checkWhat S 6 7 = some () from rfl), if_neg (by decide), if_neg (by decide), if_neg (by decide), if_neg (by decide), if_neg (by decide), if_neg (by decide), if_pos (by decide)]; rfl
  · rw [if_neg (by decide), if_neg (by decide), if_neg (by decide), if_pos (by decide), o1_e (show m_Te_checkWhat S 6 7 = some () from rfl), if_neg (by decide), if_neg (by decide), if_neg (by decide), if_neg (by decide), if_neg (by decide), if_neg (by decide), if_pos (by decide)]; rfl
