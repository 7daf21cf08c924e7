/-! THE STATE: every cell of the class is made in its constructor; S k j is what slot j of cell k holds -/
abbrev St : Type := Nat → Nat → Int32
def uR (S : St) (k : Nat) (f : Nat → Int32) : St := fun j => if j = k then f else S j
def u2 (S : St) (k j : Nat) (v : Int32) : St := uR S k (upd (S k) j v)
def stF (ad : Nat → Nat) : Nat → Option Nat := va_up (va_up (va_up (va_up (fun _ => none) 0 (some (ad 12))) 1 (some (ad 18))) 2 (some (ad 31))) 3 (some (ad 42))
def cL (ad : Nat → Nat) (ca : Nat → ClassId) : List ((Nat → Int32) → va_E) := [
  fun row => .inr (6, [.ref (ad 1), .ref (ad 18), .ref (ad 31), .ref (ad 42), .ref (ad 58), .int (row 5)]),
  fun row => .inr (2, [.ref (ad 2), .ref (ad 3), .ref (ad 4), .ref (ad 5), .ref (ad 6), .ref (ad 9), .int (row 6)]),
  fun row => .inl (ca 2, 80, .inl row),
  fun row => .inl (ca 3, 240, .inl row),
  fun row => .inl (ca 4, 6, .inl row),
  fun row => .inl (ca 5, 80, .inl row),
  fun row => .inr (5, [.ref (ad 7), .ref (ad 8), .int (row 2)]),
  fun row => .inl (ca 7, 80, .inl row),
  fun row => .inl (ca 8, 80, .inl row),
  fun row => .inr (5, [.ref (ad 10), .ref (ad 11), .int (row 2)]),
  fun row => .inl (ca 10, 80, .inl row),
  fun row => .inl (ca 11, 80, .inl row),
  fun row => .inr (0, [.ref (ad 1), .int (row 1), .int (row 2), .int (row 3), .int (row 4), .int (row 5), .int (row 6), .ref (ad 13), .ref (ad 14), .ref (ad 15), .int (row 10), .int (row 11)]),
  fun row => .inl (ca 13, 80, .inl row),
  fun row => .inl (ca 14, 80, .inl row),
  fun row => .inr (5, [.ref (ad 16), .ref (ad 17), .int (row 2)]),
  fun row => .inl (ca 16, 80, .inl row),
  fun row => .inl (ca 17, 80, .inl row),
  fun row => .inr (4, [.ref (ad 1), .int (row 1), .int (row 2), .int (row 3), .int (row 4), .int (row 5), .int (row 6), .ref (ad 19), .ref (ad 20), .int (row 9), .int (row 10), .ref (ad 21), .ref (ad 24), .ref (ad 27), .ref (ad 30), .int (row 15), .int (row 16)]),
  fun row => .inl (ca 19, 80, .inl row),
  fun row => .inl (ca 20, 80, .inl row),
  fun row => .inr (5, [.ref (ad 22), .ref (ad 23), .int (row 2)]),
  fun row => .inl (ca 22, 80, .inl row),
  fun row => .inl (ca 23, 80, .inl row),
  fun row => .inr (5, [.ref (ad 25), .ref (ad 26), .int (row 2)]),
  fun row => .inl (ca 25, 80, .inl row),
  fun row => .inl (ca 26, 80, .inl row),
  fun row => .inr (5, [.ref (ad 28), .ref (ad 29), .int (row 2)]),
  fun row => .inl (ca 28, 80, .inl row),
  fun row => .inl (ca 29, 80, .inl row),
  fun row => .inl (ca 30, 80, .inl row),
  fun row => .inr (3, [.ref (ad 34), .ref (ad 1), .int (row 2), .int (row 3), .int (row 4), .int (row 5), .int (row 6), .int (row 7), .ref (ad 32), .ref (ad 33), .int (row 10), .ref (ad 35), .ref (ad 36), .ref (ad 39), .int (row 14)]),
  fun row => .inl (ca 32, 80, .inl row),
  fun row => .inl (ca 33, 80, .inl row),
  fun row => .inl (ca 34, 160, .inl row),
  fun row => .inl (ca 35, 80, .inl row),
  fun row => .inr (5, [.ref (ad 37), .ref (ad 38), .int (row 2)]),
  fun row => .inl (ca 37, 80, .inl row),
  fun row => .inl (ca 38, 80, .inl row),
  fun row => .inr (5, [.ref (ad 40), .ref (ad 41), .int (row 2)]),
  fun row => .inl (ca 40, 80, .inl row),
  fun row => .inl (ca 41, 80, .inl row),
  fun row => .inr (1, [.ref (ad 45), .ref (ad 1), .int (row 2), .int (row 3), .int (row 4), .int (row 5), .int (row 6), .int (row 7), .ref (ad 43), .ref (ad 44), .int (row 10), .ref (ad 46), .ref (ad 47), .ref (ad 48), .ref (ad 49), .ref (ad 52), .ref (ad 55)]),
  fun row => .inl (ca 43, 80, .inl row),
  fun row => .inl (ca 44, 80, .inl row),
  fun row => .inl (ca 45, 160, .inl row),
  fun row => .inl (ca 46, 80, .inl row),
  fun row => .inl (ca 47, 80, .inl row),
  fun row => .inl (ca 48, 80, .inl row),
  fun row => .inr (5, [.ref (ad 50), .ref (ad 51), .int (row 2)]),
  fun row => .inl (ca 50, 80, .inl row),
  fun row => .inl (ca 51, 80, .inl row),
  fun row => .inr (5, [.ref (ad 53), .ref (ad 54), .int (row 2)]),
  fun row => .inl (ca 53, 80, .inl row),
  fun row => .inl (ca 54, 80, .inl row),
  fun row => .inr (5, [.ref (ad 56), .ref (ad 57), .int (row 2)]),
  fun row => .inl (ca 56, 80, .inl row),
  fun row => .inl (ca 57, 80, .inl row),
  fun row => .inl (ca 58, 4, .inr (.inr (.inr (.inr (stF ad)))))]
def cE (ad : Nat → Nat) (ca : Nat → ClassId) (k : Nat) (row : Nat → Int32) : va_E := ((cL ad ca)[k]?.getD (fun _ => .inr (0, []))) row
def wl (ad : Nat → Nat) (ca : Nat → ClassId) (S : St) : va_W := (List.range 59).map (fun k => (ad k, cE ad ca k (S k)))
theorem wl_len {ad : Nat → Nat} {ca : Nat → ClassId} {S : St} : (wl ad ca S).length = 59 := by simp [wl]
theorem wl_at {ad : Nat → Nat} {ca : Nat → ClassId} {S : St} {k : Nat} (h : k < 59) : (wl ad ca S)[k]? = some (ad k, cE ad ca k (S k)) := by simp [wl, h]
theorem wl_of {ad : Nat → Nat} {ca : Nat → ClassId} {S : St} {k : Nat} {q : Nat × va_E} (h : (wl ad ca S)[k]? = some q) : k < 59 ∧ q = (ad k, cE ad ca k (S k)) := by
  have hk : k < 59 := by
    have h1 := (List.getElem?_eq_some_iff.mp h).1
    rwa [wl_len] at h1
  rw [wl_at hk] at h
  exact ⟨hk, (Option.some.inj h).symm⟩
theorem wl_set {ad : Nat → Nat} {ca : Nat → ClassId} {S : St} {k : Nat} {f : Nat → Int32} {e : va_E} (he : cE ad ca k f = e) : (wl ad ca S).set k (ad k, e) = wl ad ca (uR S k f) := by
  subst he
  apply List.ext_getElem?
  intro i
  by_cases hi : i < 59
  · by_cases hk : k = i
    · subst hk
      rw [List.getElem?_set_self (by rw [wl_len]; exact hi), wl_at hi]
      simp [uR]
    · rw [List.getElem?_set_ne hk, wl_at hi, wl_at hi]
      simp [uR, show ¬ i = k from fun h => hk h.symm]
  · rw [List.getElem?_eq_none (by rw [List.length_set, wl_len]; omega), List.getElem?_eq_none (by rw [wl_len]; omega)]
def TYS (ca : Nat → ClassId) : List (ClassId × FieldType) := [(ca 2, .int), (ca 3, .int), (ca 4, .int), (ca 5, .int), (ca 7, .int), (ca 8, .boolean), (ca 10, .int), (ca 11, .boolean), (ca 13, .boolean), (ca 14, .int), (ca 16, .int), (ca 17, .boolean), (ca 19, .boolean), (ca 20, .int), (ca 22, .int), (ca 23, .boolean), (ca 25, .int), (ca 26, .boolean), (ca 28, .int), (ca 29, .boolean), (ca 30, .boolean), (ca 32, .boolean), (ca 33, .int), (ca 34, .boolean), (ca 35, .int), (ca 37, .int), (ca 38, .boolean), (ca 40, .int), (ca 41, .boolean), (ca 43, .boolean), (ca 44, .int), (ca 45, .boolean), (ca 46, .int), (ca 47, .boolean), (ca 48, .int), (ca 50, .int), (ca 51, .boolean), (ca 53, .int), (ca 54, .boolean), (ca 56, .int), (ca 57, .boolean), (ca 58, .object "Tessera$Store")]
theorem ce_0 (ad : Nat → Nat) (ca : Nat → ClassId) (row : Nat → Int32) : cE ad ca 0 row = .inr (6, [.ref (ad 1), .ref (ad 18), .ref (ad 31), .ref (ad 42), .ref (ad 58), .int (row 5)]) := rfl
theorem pe_0_5 (ad : Nat → Nat) (ca : Nat → ClassId) (row : Nat → Int32) (x : Int32) : cE ad ca 0 (upd row 5 x) = .inr (6, [.ref (ad 1), .ref (ad 18), .ref (ad 31), .ref (ad 42), .ref (ad 58), .int x]) := rfl
theorem ce_1 (ad : Nat → Nat) (ca : Nat → ClassId) (row : Nat → Int32) : cE ad ca 1 row = .inr (2, [.ref (ad 2), .ref (ad 3), .ref (ad 4), .ref (ad 5), .ref (ad 6), .ref (ad 9), .int (row 6)]) := rfl
theorem pe_1_6 (ad : Nat → Nat) (ca : Nat → ClassId) (row : Nat → Int32) (x : Int32) : cE ad ca 1 (upd row 6 x) = .inr (2, [.ref (ad 2), .ref (ad 3), .ref (ad 4), .ref (ad 5), .ref (ad 6), .ref (ad 9), .int x]) := rfl
theorem ce_2 (ad : Nat → Nat) (ca : Nat → ClassId) (row : Nat → Int32) : cE ad ca 2 row = .inl (ca 2, 80, .inl row) := rfl
theorem ce_3 (ad : Nat → Nat) (ca : Nat → ClassId) (row : Nat → Int32) : cE ad ca 3 row = .inl (ca 3, 240, .inl row) := rfl
theorem ce_4 (ad : Nat → Nat) (ca : Nat → ClassId) (row : Nat → Int32) : cE ad ca 4 row = .inl (ca 4, 6, .inl row) := rfl
theorem ce_5 (ad : Nat → Nat) (ca : Nat → ClassId) (row : Nat → Int32) : cE ad ca 5 row = .inl (ca 5, 80, .inl row) := rfl
theorem ce_6 (ad : Nat → Nat) (ca : Nat → ClassId) (row : Nat → Int32) : cE ad ca 6 row = .inr (5, [.ref (ad 7), .ref (ad 8), .int (row 2)]) := rfl
theorem pe_6_2 (ad : Nat → Nat) (ca : Nat → ClassId) (row : Nat → Int32) (x : Int32) : cE ad ca 6 (upd row 2 x) = .inr (5, [.ref (ad 7), .ref (ad 8), .int x]) := rfl
theorem ce_7 (ad : Nat → Nat) (ca : Nat → ClassId) (row : Nat → Int32) : cE ad ca 7 row = .inl (ca 7, 80, .inl row) := rfl
theorem ce_8 (ad : Nat → Nat) (ca : Nat → ClassId) (row : Nat → Int32) : cE ad ca 8 row = .inl (ca 8, 80, .inl row) := rfl
theorem ce_9 (ad : Nat → Nat) (ca : Nat → ClassId) (row : Nat → Int32) : cE ad ca 9 row = .inr (5, [.ref (ad 10), .ref (ad 11), .int (row 2)]) := rfl
theorem pe_9_2 (ad : Nat → Nat) (ca : Nat → ClassId) (row : Nat → Int32) (x : Int32) : cE ad ca 9 (upd row 2 x) = .inr (5, [.ref (ad 10), .ref (ad 11), .int x]) := rfl
theorem ce_10 (ad : Nat → Nat) (ca : Nat → ClassId) (row : Nat → Int32) : cE ad ca 10 row = .inl (ca 10, 80, .inl row) := rfl
theorem ce_11 (ad : Nat → Nat) (ca : Nat → ClassId) (row : Nat → Int32) : cE ad ca 11 row = .inl (ca 11, 80, .inl row) := rfl
theorem ce_12 (ad : Nat → Nat) (ca : Nat → ClassId) (row : Nat → Int32) : cE ad ca 12 row = .inr (0, [.ref (ad 1), .int (row 1), .int (row 2), .int (row 3), .int (row 4), .int (row 5), .int (row 6), .ref (ad 13), .ref (ad 14), .ref (ad 15), .int (row 10), .int (row 11)]) := rfl
theorem pe_12_1 (ad : Nat → Nat) (ca : Nat → ClassId) (row : Nat → Int32) (x : Int32) : cE ad ca 12 (upd row 1 x) = .inr (0, [.ref (ad 1), .int x, .int (row 2), .int (row 3), .int (row 4), .int (row 5), .int (row 6), .ref (ad 13), .ref (ad 14), .ref (ad 15), .int (row 10), .int (row 11)]) := rfl
theorem pe_12_2 (ad : Nat → Nat) (ca : Nat → ClassId) (row : Nat → Int32) (x : Int32) : cE ad ca 12 (upd row 2 x) = .inr (0, [.ref (ad 1), .int (row 1), .int x, .int (row 3), .int (row 4), .int (row 5), .int (row 6), .ref (ad 13), .ref (ad 14), .ref (ad 15), .int (row 10), .int (row 11)]) := rfl
theorem pe_12_3 (ad : Nat → Nat) (ca : Nat → ClassId) (row : Nat → Int32) (x : Int32) : cE ad ca 12 (upd row 3 x) = .inr (0, [.ref (ad 1), .int (row 1), .int (row 2), .int x, .int (row 4), .int (row 5), .int (row 6), .ref (ad 13), .ref (ad 14), .ref (ad 15), .int (row 10), .int (row 11)]) := rfl
theorem pe_12_4 (ad : Nat → Nat) (ca : Nat → ClassId) (row : Nat → Int32) (x : Int32) : cE ad ca 12 (upd row 4 x) = .inr (0, [.ref (ad 1), .int (row 1), .int (row 2), .int (row 3), .int x, .int (row 5), .int (row 6), .ref (ad 13), .ref (ad 14), .ref (ad 15), .int (row 10), .int (row 11)]) := rfl
theorem pe_12_5 (ad : Nat → Nat) (ca : Nat → ClassId) (row : Nat → Int32) (x : Int32) : cE ad ca 12 (upd row 5 x) = .inr (0, [.ref (ad 1), .int (row 1), .int (row 2), .int (row 3), .int (row 4), .int x, .int (row 6), .ref (ad 13), .ref (ad 14), .ref (ad 15), .int (row 10), .int (row 11)]) := rfl
theorem pe_12_6 (ad : Nat → Nat) (ca : Nat → ClassId) (row : Nat → Int32) (x : Int32) : cE ad ca 12 (upd row 6 x) = .inr (0, [.ref (ad 1), .int (row 1), .int (row 2), .int (row 3), .int (row 4), .int (row 5), .int x, .ref (ad 13), .ref (ad 14), .ref (ad 15), .int (row 10), .int (row 11)]) := rfl
theorem pe_12_10 (ad : Nat → Nat) (ca : Nat → ClassId) (row : Nat → Int32) (x : Int32) : cE ad ca 12 (upd row 10 x) = .inr (0, [.ref (ad 1), .int (row 1), .int (row 2), .int (row 3), .int (row 4), .int (row 5), .int (row 6), .ref (ad 13), .ref (ad 14), .ref (ad 15), .int x, .int (row 11)]) := rfl
theorem pe_12_11 (ad : Nat → Nat) (ca : Nat → ClassId) (row : Nat → Int32) (x : Int32) : cE ad ca 12 (upd row 11 x) = .inr (0, [.ref (ad 1), .int (row 1), .int (row 2), .int (row 3), .int (row 4), .int (row 5), .int (row 6), .ref (ad 13), .ref (ad 14), .ref (ad 15), .int (row 10), .int x]) := rfl
theorem ce_13 (ad : Nat → Nat) (ca : Nat → ClassId) (row : Nat → Int32) : cE ad ca 13 row = .inl (ca 13, 80, .inl row) := rfl
theorem ce_14 (ad : Nat → Nat) (ca : Nat → ClassId) (row : Nat → Int32) : cE ad ca 14 row = .inl (ca 14, 80, .inl row) := rfl
theorem ce_15 (ad : Nat → Nat) (ca : Nat → ClassId) (row : Nat → Int32) : cE ad ca 15 row = .inr (5, [.ref (ad 16), .ref (ad 17), .int (row 2)]) := rfl
theorem pe_15_2 (ad : Nat → Nat) (ca : Nat → ClassId) (row : Nat → Int32) (x : Int32) : cE ad ca 15 (upd row 2 x) = .inr (5, [.ref (ad 16), .ref (ad 17), .int x]) := rfl
theorem ce_16 (ad : Nat → Nat) (ca : Nat → ClassId) (row : Nat → Int32) : cE ad ca 16 row = .inl (ca 16, 80, .inl row) := rfl
theorem ce_17 (ad : Nat → Nat) (ca : Nat → ClassId) (row : Nat → Int32) : cE ad ca 17 row = .inl (ca 17, 80, .inl row) := rfl
theorem ce_18 (ad : Nat → Nat) (ca : Nat → ClassId) (row : Nat → Int32) : cE ad ca 18 row = .inr (4, [.ref (ad 1), .int (row 1), .int (row 2), .int (row 3), .int (row 4), .int (row 5), .int (row 6), .ref (ad 19), .ref (ad 20), .int (row 9), .int (row 10), .ref (ad 21), .ref (ad 24), .ref (ad 27), .ref (ad 30), .int (row 15), .int (row 16)]) := rfl
theorem pe_18_1 (ad : Nat → Nat) (ca : Nat → ClassId) (row : Nat → Int32) (x : Int32) : cE ad ca 18 (upd row 1 x) = .inr (4, [.ref (ad 1), .int x, .int (row 2), .int (row 3), .int (row 4), .int (row 5), .int (row 6), .ref (ad 19), .ref (ad 20), .int (row 9), .int (row 10), .ref (ad 21), .ref (ad 24), .ref (ad 27), .ref (ad 30), .int (row 15), .int (row 16)]) := rfl
theorem pe_18_2 (ad : Nat → Nat) (ca : Nat → ClassId) (row : Nat → Int32) (x : Int32) : cE ad ca 18 (upd row 2 x) = .inr (4, [.ref (ad 1), .int (row 1), .int x, .int (row 3), .int (row 4), .int (row 5), .int (row 6), .ref (ad 19), .ref (ad 20), .int (row 9), .int (row 10), .ref (ad 21), .ref (ad 24), .ref (ad 27), .ref (ad 30), .int (row 15), .int (row 16)]) := rfl
theorem pe_18_3 (ad : Nat → Nat) (ca : Nat → ClassId) (row : Nat → Int32) (x : Int32) : cE ad ca 18 (upd row 3 x) = .inr (4, [.ref (ad 1), .int (row 1), .int (row 2), .int x, .int (row 4), .int (row 5), .int (row 6), .ref (ad 19), .ref (ad 20), .int (row 9), .int (row 10), .ref (ad 21), .ref (ad 24), .ref (ad 27), .ref (ad 30), .int (row 15), .int (row 16)]) := rfl
theorem pe_18_4 (ad : Nat → Nat) (ca : Nat → ClassId) (row : Nat → Int32) (x : Int32) : cE ad ca 18 (upd row 4 x) = .inr (4, [.ref (ad 1), .int (row 1), .int (row 2), .int (row 3), .int x, .int (row 5), .int (row 6), .ref (ad 19), .ref (ad 20), .int (row 9), .int (row 10), .ref (ad 21), .ref (ad 24), .ref (ad 27), .ref (ad 30), .int (row 15), .int (row 16)]) := rfl
theorem pe_18_5 (ad : Nat → Nat) (ca : Nat → ClassId) (row : Nat → Int32) (x : Int32) : cE ad ca 18 (upd row 5 x) = .inr (4, [.ref (ad 1), .int (row 1), .int (row 2), .int (row 3), .int (row 4), .int x, .int (row 6), .ref (ad 19), .ref (ad 20), .int (row 9), .int (row 10), .ref (ad 21), .ref (ad 24), .ref (ad 27), .ref (ad 30), .int (row 15), .int (row 16)]) := rfl
theorem pe_18_6 (ad : Nat → Nat) (ca : Nat → ClassId) (row : Nat → Int32) (x : Int32) : cE ad ca 18 (upd row 6 x) = .inr (4, [.ref (ad 1), .int (row 1), .int (row 2), .int (row 3), .int (row 4), .int (row 5), .int x, .ref (ad 19), .ref (ad 20), .int (row 9), .int (row 10), .ref (ad 21), .ref (ad 24), .ref (ad 27), .ref (ad 30), .int (row 15), .int (row 16)]) := rfl
theorem pe_18_9 (ad : Nat → Nat) (ca : Nat → ClassId) (row : Nat → Int32) (x : Int32) : cE ad ca 18 (upd row 9 x) = .inr (4, [.ref (ad 1), .int (row 1), .int (row 2), .int (row 3), .int (row 4), .int (row 5), .int (row 6), .ref (ad 19), .ref (ad 20), .int x, .int (row 10), .ref (ad 21), .ref (ad 24), .ref (ad 27), .ref (ad 30), .int (row 15), .int (row 16)]) := rfl
theorem pe_18_10 (ad : Nat → Nat) (ca : Nat → ClassId) (row : Nat → Int32) (x : Int32) : cE ad ca 18 (upd row 10 x) = .inr (4, [.ref (ad 1), .int (row 1), .int (row 2), .int (row 3), .int (row 4), .int (row 5), .int (row 6), .ref (ad 19), .ref (ad 20), .int (row 9), .int x, .ref (ad 21), .ref (ad 24), .ref (ad 27), .ref (ad 30), .int (row 15), .int (row 16)]) := rfl
theorem pe_18_15 (ad : Nat → Nat) (ca : Nat → ClassId) (row : Nat → Int32) (x : Int32) : cE ad ca 18 (upd row 15 x) = .inr (4, [.ref (ad 1), .int (row 1), .int (row 2), .int (row 3), .int (row 4), .int (row 5), .int (row 6), .ref (ad 19), .ref (ad 20), .int (row 9), .int (row 10), .ref (ad 21), .ref (ad 24), .ref (ad 27), .ref (ad 30), .int x, .int (row 16)]) := rfl
theorem pe_18_16 (ad : Nat → Nat) (ca : Nat → ClassId) (row : Nat → Int32) (x : Int32) : cE ad ca 18 (upd row 16 x) = .inr (4, [.ref (ad 1), .int (row 1), .int (row 2), .int (row 3), .int (row 4), .int (row 5), .int (row 6), .ref (ad 19), .ref (ad 20), .int (row 9), .int (row 10), .ref (ad 21), .ref (ad 24), .ref (ad 27), .ref (ad 30), .int (row 15), .int x]) := rfl
theorem ce_19 (ad : Nat → Nat) (ca : Nat → ClassId) (row : Nat → Int32) : cE ad ca 19 row = .inl (ca 19, 80, .inl row) := rfl
theorem ce_20 (ad : Nat → Nat) (ca : Nat → ClassId) (row : Nat → Int32) : cE ad ca 20 row = .inl (ca 20, 80, .inl row) := rfl
theorem ce_21 (ad : Nat → Nat) (ca : Nat → ClassId) (row : Nat → Int32) : cE ad ca 21 row = .inr (5, [.ref (ad 22), .ref (ad 23), .int (row 2)]) := rfl
theorem pe_21_2 (ad : Nat → Nat) (ca : Nat → ClassId) (row : Nat → Int32) (x : Int32) : cE ad ca 21 (upd row 2 x) = .inr (5, [.ref (ad 22), .ref (ad 23), .int x]) := rfl
theorem ce_22 (ad : Nat → Nat) (ca : Nat → ClassId) (row : Nat → Int32) : cE ad ca 22 row = .inl (ca 22, 80, .inl row) := rfl
theorem ce_23 (ad : Nat → Nat) (ca : Nat → ClassId) (row : Nat → Int32) : cE ad ca 23 row = .inl (ca 23, 80, .inl row) := rfl
theorem ce_24 (ad : Nat → Nat) (ca : Nat → ClassId) (row : Nat → Int32) : cE ad ca 24 row = .inr (5, [.ref (ad 25), .ref (ad 26), .int (row 2)]) := rfl
theorem pe_24_2 (ad : Nat → Nat) (ca : Nat → ClassId) (row : Nat → Int32) (x : Int32) : cE ad ca 24 (upd row 2 x) = .inr (5, [.ref (ad 25), .ref (ad 26), .int x]) := rfl
theorem ce_25 (ad : Nat → Nat) (ca : Nat → ClassId) (row : Nat → Int32) : cE ad ca 25 row = .inl (ca 25, 80, .inl row) := rfl
theorem ce_26 (ad : Nat → Nat) (ca : Nat → ClassId) (row : Nat → Int32) : cE ad ca 26 row = .inl (ca 26, 80, .inl row) := rfl
theorem ce_27 (ad : Nat → Nat) (ca : Nat → ClassId) (row : Nat → Int32) : cE ad ca 27 row = .inr (5, [.ref (ad 28), .ref (ad 29), .int (row 2)]) := rfl
theorem pe_27_2 (ad : Nat → Nat) (ca : Nat → ClassId) (row : Nat → Int32) (x : Int32) : cE ad ca 27 (upd row 2 x) = .inr (5, [.ref (ad 28), .ref (ad 29), .int x]) := rfl
theorem ce_28 (ad : Nat → Nat) (ca : Nat → ClassId) (row : Nat → Int32) : cE ad ca 28 row = .inl (ca 28, 80, .inl row) := rfl
theorem ce_29 (ad : Nat → Nat) (ca : Nat → ClassId) (row : Nat → Int32) : cE ad ca 29 row = .inl (ca 29, 80, .inl row) := rfl
theorem ce_30 (ad : Nat → Nat) (ca : Nat → ClassId) (row : Nat → Int32) : cE ad ca 30 row = .inl (ca 30, 80, .inl row) := rfl
theorem ce_31 (ad : Nat → Nat) (ca : Nat → ClassId) (row : Nat → Int32) : cE ad ca 31 row = .inr (3, [.ref (ad 34), .ref (ad 1), .int (row 2), .int (row 3), .int (row 4), .int (row 5), .int (row 6), .int (row 7), .ref (ad 32), .ref (ad 33), .int (row 10), .ref (ad 35), .ref (ad 36), .ref (ad 39), .int (row 14)]) := rfl
theorem pe_31_2 (ad : Nat → Nat) (ca : Nat → ClassId) (row : Nat → Int32) (x : Int32) : cE ad ca 31 (upd row 2 x) = .inr (3, [.ref (ad 34), .ref (ad 1), .int x, .int (row 3), .int (row 4), .int (row 5), .int (row 6), .int (row 7), .ref (ad 32), .ref (ad 33), .int (row 10), .ref (ad 35), .ref (ad 36), .ref (ad 39), .int (row 14)]) := rfl
theorem pe_31_3 (ad : Nat → Nat) (ca : Nat → ClassId) (row : Nat → Int32) (x : Int32) : cE ad ca 31 (upd row 3 x) = .inr (3, [.ref (ad 34), .ref (ad 1), .int (row 2), .int x, .int (row 4), .int (row 5), .int (row 6), .int (row 7), .ref (ad 32), .ref (ad 33), .int (row 10), .ref (ad 35), .ref (ad 36), .ref (ad 39), .int (row 14)]) := rfl
theorem pe_31_4 (ad : Nat → Nat) (ca : Nat → ClassId) (row : Nat → Int32) (x : Int32) : cE ad ca 31 (upd row 4 x) = .inr (3, [.ref (ad 34), .ref (ad 1), .int (row 2), .int (row 3), .int x, .int (row 5), .int (row 6), .int (row 7), .ref (ad 32), .ref (ad 33), .int (row 10), .ref (ad 35), .ref (ad 36), .ref (ad 39), .int (row 14)]) := rfl
theorem pe_31_5 (ad : Nat → Nat) (ca : Nat → ClassId) (row : Nat → Int32) (x : Int32) : cE ad ca 31 (upd row 5 x) = .inr (3, [.ref (ad 34), .ref (ad 1), .int (row 2), .int (row 3), .int (row 4), .int x, .int (row 6), .int (row 7), .ref (ad 32), .ref (ad 33), .int (row 10), .ref (ad 35), .ref (ad 36), .ref (ad 39), .int (row 14)]) := rfl
theorem pe_31_6 (ad : Nat → Nat) (ca : Nat → ClassId) (row : Nat → Int32) (x : Int32) : cE ad ca 31 (upd row 6 x) = .inr (3, [.ref (ad 34), .ref (ad 1), .int (row 2), .int (row 3), .int (row 4), .int (row 5), .int x, .int (row 7), .ref (ad 32), .ref (ad 33), .int (row 10), .ref (ad 35), .ref (ad 36), .ref (ad 39), .int (row 14)]) := rfl
theorem pe_31_7 (ad : Nat → Nat) (ca : Nat → ClassId) (row : Nat → Int32) (x : Int32) : cE ad ca 31 (upd row 7 x) = .inr (3, [.ref (ad 34), .ref (ad 1), .int (row 2), .int (row 3), .int (row 4), .int (row 5), .int (row 6), .int x, .ref (ad 32), .ref (ad 33), .int (row 10), .ref (ad 35), .ref (ad 36), .ref (ad 39), .int (row 14)]) := rfl
theorem pe_31_10 (ad : Nat → Nat) (ca : Nat → ClassId) (row : Nat → Int32) (x : Int32) : cE ad ca 31 (upd row 10 x) = .inr (3, [.ref (ad 34), .ref (ad 1), .int (row 2), .int (row 3), .int (row 4), .int (row 5), .int (row 6), .int (row 7), .ref (ad 32), .ref (ad 33), .int x, .ref (ad 35), .ref (ad 36), .ref (ad 39), .int (row 14)]) := rfl
theorem pe_31_14 (ad : Nat → Nat) (ca : Nat → ClassId) (row : Nat → Int32) (x : Int32) : cE ad ca 31 (upd row 14 x) = .inr (3, [.ref (ad 34), .ref (ad 1), .int (row 2), .int (row 3), .int (row 4), .int (row 5), .int (row 6), .int (row 7), .ref (ad 32), .ref (ad 33), .int (row 10), .ref (ad 35), .ref (ad 36), .ref (ad 39), .int x]) := rfl
theorem ce_32 (ad : Nat → Nat) (ca : Nat → ClassId) (row : Nat → Int32) : cE ad ca 32 row = .inl (ca 32, 80, .inl row) := rfl
theorem ce_33 (ad : Nat → Nat) (ca : Nat → ClassId) (row : Nat → Int32) : cE ad ca 33 row = .inl (ca 33, 80, .inl row) := rfl
theorem ce_34 (ad : Nat → Nat) (ca : Nat → ClassId) (row : Nat → Int32) : cE ad ca 34 row = .inl (ca 34, 160, .inl row) := rfl
theorem ce_35 (ad : Nat → Nat) (ca : Nat → ClassId) (row : Nat → Int32) : cE ad ca 35 row = .inl (ca 35, 80, .inl row) := rfl
theorem ce_36 (ad : Nat → Nat) (ca : Nat → ClassId) (row : Nat → Int32) : cE ad ca 36 row = .inr (5, [.ref (ad 37), .ref (ad 38), .int (row 2)]) := rfl
theorem pe_36_2 (ad : Nat → Nat) (ca : Nat → ClassId) (row : Nat → Int32) (x : Int32) : cE ad ca 36 (upd row 2 x) = .inr (5, [.ref (ad 37), .ref (ad 38), .int x]) := rfl
theorem ce_37 (ad : Nat → Nat) (ca : Nat → ClassId) (row : Nat → Int32) : cE ad ca 37 row = .inl (ca 37, 80, .inl row) := rfl
theorem ce_38 (ad : Nat → Nat) (ca : Nat → ClassId) (row : Nat → Int32) : cE ad ca 38 row = .inl (ca 38, 80, .inl row) := rfl
theorem ce_39 (ad : Nat → Nat) (ca : Nat → ClassId) (row : Nat → Int32) : cE ad ca 39 row = .inr (5, [.ref (ad 40), .ref (ad 41), .int (row 2)]) := rfl
theorem pe_39_2 (ad : Nat → Nat) (ca : Nat → ClassId) (row : Nat → Int32) (x : Int32) : cE ad ca 39 (upd row 2 x) = .inr (5, [.ref (ad 40), .ref (ad 41), .int x]) := rfl
theorem ce_40 (ad : Nat → Nat) (ca : Nat → ClassId) (row : Nat → Int32) : cE ad ca 40 row = .inl (ca 40, 80, .inl row) := rfl
theorem ce_41 (ad : Nat → Nat) (ca : Nat → ClassId) (row : Nat → Int32) : cE ad ca 41 row = .inl (ca 41, 80, .inl row) := rfl
theorem ce_42 (ad : Nat → Nat) (ca : Nat → ClassId) (row : Nat → Int32) : cE ad ca 42 row = .inr (1, [.ref (ad 45), .ref (ad 1), .int (row 2), .int (row 3), .int (row 4), .int (row 5), .int (row 6), .int (row 7), .ref (ad 43), .ref (ad 44), .int (row 10), .ref (ad 46), .ref (ad 47), .ref (ad 48), .ref (ad 49), .ref (ad 52), .ref (ad 55)]) := rfl
theorem pe_42_2 (ad : Nat → Nat) (ca : Nat → ClassId) (row : Nat → Int32) (x : Int32) : cE ad ca 42 (upd row 2 x) = .inr (1, [.ref (ad 45), .ref (ad 1), .int x, .int (row 3), .int (row 4), .int (row 5), .int (row 6), .int (row 7), .ref (ad 43), .ref (ad 44), .int (row 10), .ref (ad 46), .ref (ad 47), .ref (ad 48), .ref (ad 49), .ref (ad 52), .ref (ad 55)]) := rfl
theorem pe_42_3 (ad : Nat → Nat) (ca : Nat → ClassId) (row : Nat → Int32) (x : Int32) : cE ad ca 42 (upd row 3 x) = .inr (1, [.ref (ad 45), .ref (ad 1), .int (row 2), .int x, .int (row 4), .int (row 5), .int (row 6), .int (row 7), .ref (ad 43), .ref (ad 44), .int (row 10), .ref (ad 46), .ref (ad 47), .ref (ad 48), .ref (ad 49), .ref (ad 52), .ref (ad 55)]) := rfl
theorem pe_42_4 (ad : Nat → Nat) (ca : Nat → ClassId) (row : Nat → Int32) (x : Int32) : cE ad ca 42 (upd row 4 x) = .inr (1, [.ref (ad 45), .ref (ad 1), .int (row 2), .int (row 3), .int x, .int (row 5), .int (row 6), .int (row 7), .ref (ad 43), .ref (ad 44), .int (row 10), .ref (ad 46), .ref (ad 47), .ref (ad 48), .ref (ad 49), .ref (ad 52), .ref (ad 55)]) := rfl
theorem pe_42_5 (ad : Nat → Nat) (ca : Nat → ClassId) (row : Nat → Int32) (x : Int32) : cE ad ca 42 (upd row 5 x) = .inr (1, [.ref (ad 45), .ref (ad 1), .int (row 2), .int (row 3), .int (row 4), .int x, .int (row 6), .int (row 7), .ref (ad 43), .ref (ad 44), .int (row 10), .ref (ad 46), .ref (ad 47), .ref (ad 48), .ref (ad 49), .ref (ad 52), .ref (ad 55)]) := rfl
theorem pe_42_6 (ad : Nat → Nat) (ca : Nat → ClassId) (row : Nat → Int32) (x : Int32) : cE ad ca 42 (upd row 6 x) = .inr (1, [.ref (ad 45), .ref (ad 1), .int (row 2), .int (row 3), .int (row 4), .int (row 5), .int x, .int (row 7), .ref (ad 43), .ref (ad 44), .int (row 10), .ref (ad 46), .ref (ad 47), .ref (ad 48), .ref (ad 49), .ref (ad 52), .ref (ad 55)]) := rfl
theorem pe_42_7 (ad : Nat → Nat) (ca : Nat → ClassId) (row : Nat → Int32) (x : Int32) : cE ad ca 42 (upd row 7 x) = .inr (1, [.ref (ad 45), .ref (ad 1), .int (row 2), .int (row 3), .int (row 4), .int (row 5), .int (row 6), .int x, .ref (ad 43), .ref (ad 44), .int (row 10), .ref (ad 46), .ref (ad 47), .ref (ad 48), .ref (ad 49), .ref (ad 52), .ref (ad 55)]) := rfl
theorem pe_42_10 (ad : Nat → Nat) (ca : Nat → ClassId) (row : Nat → Int32) (x : Int32) : cE ad ca 42 (upd row 10 x) = .inr (1, [.ref (ad 45), .ref (ad 1), .int (row 2), .int (row 3), .int (row 4), .int (row 5), .int (row 6), .int (row 7), .ref (ad 43), .ref (ad 44), .int x, .ref (ad 46), .ref (ad 47), .ref (ad 48), .ref (ad 49), .ref (ad 52), .ref (ad 55)]) := rfl
theorem ce_43 (ad : Nat → Nat) (ca : Nat → ClassId) (row : Nat → Int32) : cE ad ca 43 row = .inl (ca 43, 80, .inl row) := rfl
theorem ce_44 (ad : Nat → Nat) (ca : Nat → ClassId) (row : Nat → Int32) : cE ad ca 44 row = .inl (ca 44, 80, .inl row) := rfl
theorem ce_45 (ad : Nat → Nat) (ca : Nat → ClassId) (row : Nat → Int32) : cE ad ca 45 row = .inl (ca 45, 160, .inl row) := rfl
theorem ce_46 (ad : Nat → Nat) (ca : Nat → ClassId) (row : Nat → Int32) : cE ad ca 46 row = .inl (ca 46, 80, .inl row) := rfl
theorem ce_47 (ad : Nat → Nat) (ca : Nat → ClassId) (row : Nat → Int32) : cE ad ca 47 row = .inl (ca 47, 80, .inl row) := rfl
theorem ce_48 (ad : Nat → Nat) (ca : Nat → ClassId) (row : Nat → Int32) : cE ad ca 48 row = .inl (ca 48, 80, .inl row) := rfl
theorem ce_49 (ad : Nat → Nat) (ca : Nat → ClassId) (row : Nat → Int32) : cE ad ca 49 row = .inr (5, [.ref (ad 50), .ref (ad 51), .int (row 2)]) := rfl
theorem pe_49_2 (ad : Nat → Nat) (ca : Nat → ClassId) (row : Nat → Int32) (x : Int32) : cE ad ca 49 (upd row 2 x) = .inr (5, [.ref (ad 50), .ref (ad 51), .int x]) := rfl
theorem ce_50 (ad : Nat → Nat) (ca : Nat → ClassId) (row : Nat → Int32) : cE ad ca 50 row = .inl (ca 50, 80, .inl row) := rfl
theorem ce_51 (ad : Nat → Nat) (ca : Nat → ClassId) (row : Nat → Int32) : cE ad ca 51 row = .inl (ca 51, 80, .inl row) := rfl
theorem ce_52 (ad : Nat → Nat) (ca : Nat → ClassId) (row : Nat → Int32) : cE ad ca 52 row = .inr (5, [.ref (ad 53), .ref (ad 54), .int (row 2)]) := rfl
theorem pe_52_2 (ad : Nat → Nat) (ca : Nat → ClassId) (row : Nat → Int32) (x : Int32) : cE ad ca 52 (upd row 2 x) = .inr (5, [.ref (ad 53), .ref (ad 54), .int x]) := rfl
theorem ce_53 (ad : Nat → Nat) (ca : Nat → ClassId) (row : Nat → Int32) : cE ad ca 53 row = .inl (ca 53, 80, .inl row) := rfl
theorem ce_54 (ad : Nat → Nat) (ca : Nat → ClassId) (row : Nat → Int32) : cE ad ca 54 row = .inl (ca 54, 80, .inl row) := rfl
theorem ce_55 (ad : Nat → Nat) (ca : Nat → ClassId) (row : Nat → Int32) : cE ad ca 55 row = .inr (5, [.ref (ad 56), .ref (ad 57), .int (row 2)]) := rfl
theorem pe_55_2 (ad : Nat → Nat) (ca : Nat → ClassId) (row : Nat → Int32) (x : Int32) : cE ad ca 55 (upd row 2 x) = .inr (5, [.ref (ad 56), .ref (ad 57), .int x]) := rfl
theorem ce_56 (ad : Nat → Nat) (ca : Nat → ClassId) (row : Nat → Int32) : cE ad ca 56 row = .inl (ca 56, 80, .inl row) := rfl
theorem ce_57 (ad : Nat → Nat) (ca : Nat → ClassId) (row : Nat → Int32) : cE ad ca 57 row = .inl (ca 57, 80, .inl row) := rfl
theorem ce_58 (ad : Nat → Nat) (ca : Nat → ClassId) (row : Nat → Int32) : cE ad ca 58 row = .inl (ca 58, 4, .inr (.inr (.inr (.inr (stF ad))))) := rfl
theorem ty_2 (ca : Nat → ClassId) : (TYS ca)[0]? = some (ca 2, .int) := rfl
theorem ty_3 (ca : Nat → ClassId) : (TYS ca)[1]? = some (ca 3, .int) := rfl
theorem ty_4 (ca : Nat → ClassId) : (TYS ca)[2]? = some (ca 4, .int) := rfl
theorem ty_5 (ca : Nat → ClassId) : (TYS ca)[3]? = some (ca 5, .int) := rfl
theorem ty_7 (ca : Nat → ClassId) : (TYS ca)[4]? = some (ca 7, .int) := rfl
theorem ty_8 (ca : Nat → ClassId) : (TYS ca)[5]? = some (ca 8, .boolean) := rfl
theorem ty_10 (ca : Nat → ClassId) : (TYS ca)[6]? = some (ca 10, .int) := rfl
theorem ty_11 (ca : Nat → ClassId) : (TYS ca)[7]? = some (ca 11, .boolean) := rfl
theorem ty_13 (ca : Nat → ClassId) : (TYS ca)[8]? = some (ca 13, .boolean) := rfl
theorem ty_14 (ca : Nat → ClassId) : (TYS ca)[9]? = some (ca 14, .int) := rfl
theorem ty_16 (ca : Nat → ClassId) : (TYS ca)[10]? = some (ca 16, .int) := rfl
theorem ty_17 (ca : Nat → ClassId) : (TYS ca)[11]? = some (ca 17, .boolean) := rfl
theorem ty_19 (ca : Nat → ClassId) : (TYS ca)[12]? = some (ca 19, .boolean) := rfl
theorem ty_20 (ca : Nat → ClassId) : (TYS ca)[13]? = some (ca 20, .int) := rfl
theorem ty_22 (ca : Nat → ClassId) : (TYS ca)[14]? = some (ca 22, .int) := rfl
theorem ty_23 (ca : Nat → ClassId) : (TYS ca)[15]? = some (ca 23, .boolean) := rfl
theorem ty_25 (ca : Nat → ClassId) : (TYS ca)[16]? = some (ca 25, .int) := rfl
theorem ty_26 (ca : Nat → ClassId) : (TYS ca)[17]? = some (ca 26, .boolean) := rfl
theorem ty_28 (ca : Nat → ClassId) : (TYS ca)[18]? = some (ca 28, .int) := rfl
theorem ty_29 (ca : Nat → ClassId) : (TYS ca)[19]? = some (ca 29, .boolean) := rfl
theorem ty_30 (ca : Nat → ClassId) : (TYS ca)[20]? = some (ca 30, .boolean) := rfl
theorem ty_32 (ca : Nat → ClassId) : (TYS ca)[21]? = some (ca 32, .boolean) := rfl
theorem ty_33 (ca : Nat → ClassId) : (TYS ca)[22]? = some (ca 33, .int) := rfl
theorem ty_34 (ca : Nat → ClassId) : (TYS ca)[23]? = some (ca 34, .boolean) := rfl
theorem ty_35 (ca : Nat → ClassId) : (TYS ca)[24]? = some (ca 35, .int) := rfl
theorem ty_37 (ca : Nat → ClassId) : (TYS ca)[25]? = some (ca 37, .int) := rfl
theorem ty_38 (ca : Nat → ClassId) : (TYS ca)[26]? = some (ca 38, .boolean) := rfl
theorem ty_40 (ca : Nat → ClassId) : (TYS ca)[27]? = some (ca 40, .int) := rfl
theorem ty_41 (ca : Nat → ClassId) : (TYS ca)[28]? = some (ca 41, .boolean) := rfl
theorem ty_43 (ca : Nat → ClassId) : (TYS ca)[29]? = some (ca 43, .boolean) := rfl
theorem ty_44 (ca : Nat → ClassId) : (TYS ca)[30]? = some (ca 44, .int) := rfl
theorem ty_45 (ca : Nat → ClassId) : (TYS ca)[31]? = some (ca 45, .boolean) := rfl
theorem ty_46 (ca : Nat → ClassId) : (TYS ca)[32]? = some (ca 46, .int) := rfl
theorem ty_47 (ca : Nat → ClassId) : (TYS ca)[33]? = some (ca 47, .boolean) := rfl
theorem ty_48 (ca : Nat → ClassId) : (TYS ca)[34]? = some (ca 48, .int) := rfl
theorem ty_50 (ca : Nat → ClassId) : (TYS ca)[35]? = some (ca 50, .int) := rfl
theorem ty_51 (ca : Nat → ClassId) : (TYS ca)[36]? = some (ca 51, .boolean) := rfl
theorem ty_53 (ca : Nat → ClassId) : (TYS ca)[37]? = some (ca 53, .int) := rfl
theorem ty_54 (ca : Nat → ClassId) : (TYS ca)[38]? = some (ca 54, .boolean) := rfl
theorem ty_56 (ca : Nat → ClassId) : (TYS ca)[39]? = some (ca 56, .int) := rfl
theorem ty_57 (ca : Nat → ClassId) : (TYS ca)[40]? = some (ca 57, .boolean) := rfl
theorem ty_58 (ca : Nat → ClassId) : (TYS ca)[41]? = some (ca 58, .object "Tessera$Store") := rfl
theorem tb_good : ∀ w ∈ wsL_law0, goodWord w = true := List.all_eq_true.mp (by decide +kernel)
def NWs : List MethodName := [⟨"Tessera$Store", "placeNew", "(I)V"⟩, ⟨"Tessera$Store", "collectNow", "()I"⟩, ⟨"Tessera$Store", "countToGo", "()I"⟩, ⟨"Tessera$Store", "workToDo", "()I"⟩, ⟨"Tessera$Store", "freeTogether", "()I"⟩, ⟨"Tessera$Store", "forgetThings", "()V"⟩]
/-- what stays the same for all methods: the launch, the classes' numbers, the addresses, the arrays' classes -/
abbrev Gx : Type := Launch × va_G × (Nat → Nat) × (Nat → ClassId)
/-- what stays the same in one method's run -/
abbrev Cx : Type := Program × Env × Room × State × MethodId × Array Value × List Frame × Method × Code × (Nat → Prop)
abbrev gl (G : Gx) : Launch := G.1
abbrev gD (G : Gx) : va_G := G.2.1
abbrev gad (G : Gx) : Nat → Nat := G.2.2.1
abbrev gca (G : Gx) : Nat → ClassId := G.2.2.2
abbrev xp (X : Cx) : Program := X.1
abbrev xe (X : Cx) : Env := X.2.1
abbrev xR (X : Cx) : Room := X.2.2.1
abbrev xs (X : Cx) : State := X.2.2.2.1
abbrev xm (X : Cx) : MethodId := X.2.2.2.2.1
abbrev xargs (X : Cx) : Array Value := X.2.2.2.2.2.1
abbrev xbelow (X : Cx) : List Frame := X.2.2.2.2.2.2.1
abbrev xmeth (X : Cx) : Method := X.2.2.2.2.2.2.2.1
abbrev xc (X : Cx) : Code := X.2.2.2.2.2.2.2.2.1
abbrev xA (X : Cx) : Nat → Prop := X.2.2.2.2.2.2.2.2.2
def qinj (ad : Nat → Nat) : Prop := ∀ i j, i < 59 → j < 59 → ad i = ad j → i = j
def fA (ad : Nat → Nat) (sz : Nat) : Nat → Prop := fun q => (∃ k, k < 59 ∧ q = ad k) ∨ sz ≤ q
def qB (G : Gx) (S : St) (U : State) : Prop := va_P (gD G) vwCl (wl (gad G) (gca G) S) U.heap ∧ va_K (gD G) vwCl (TYS (gca G)) U ∧ ∀ x ∈ NWs, va_Nw (.declares x) U
/-- at pc, with these locals and stack, over the state S: the run comes to Q -/
def QW (G : Gx) (X : Cx) (nL : Nat) (Q : State → Prop) (pc : Nat) (lv : List (Nat × Value)) (st : List Value) (S : St) : Prop :=
  ∀ (H : Heap) (locs : List Loc) (ls : Array Slot), va_P (gD G) vwCl (wl (gad G) (gca G) S) H → va_S (xA X) (xs X).heap H locs → lv_has ls nL lv →
    W (xp X) (gl G) (xe X) (xR X) (xs X) (xm X) (xargs X) (xbelow X) (xmeth X) (xc X) H locs 0 0 Q (F0 (xm X) pc ls st)
def QC (G : Gx) (X : Cx) (cc : ByteArray) (nL : Nat) (own : String) (fr lo : Nat) (ret : Option FieldType) : Prop :=
  (xp X).tables.exec = Jvm.exec ∧ (xc X).code = cc ∧ (xc X).maxLocals = nL ∧ (∀ w ∈ wsL_law0, w.before (xargs X) (xs X) = true) ∧ (xs X).vm.findClass own = some (xm X).cls ∧ va_K (gD G) vwCl (TYS (gca G)) (xs X) ∧
  (∀ x ∈ NWs, va_Nw (.declares x) (xs X)) ∧ qinj (gad G) ∧ (∀ q, (xs X).heap.size ≤ q → xA X q) ∧ (∀ k, k < 59 → xA X (gad G k)) ∧ (xmeth X).sig.returnType = ret ∧ (xmeth X).locks = false ∧ xR X = { frames := fr, cells := 0, slots := 0, locals := lo }
def QE (G : Gx) (X : Cx) (v : Option Value) (S' : St) : State → Prop :=
  MQ (xbelow X) (fun _ st oc t => (oc = .returned v ∧ qB G S' t) ∧ va_F (xA X) st t) (xargs X) (xs X) 0 0 (xA X)
/-- the method y, called with these values over S, returns v and leaves S' -/
def QMet (G : Gx) (y : MethodName) (cc : ByteArray) (nL : Nat) (ret : Option FieldType) (fr lo : Nat) (av : List Value) (S : St) (v : Option Value) (S' : St) : Prop :=
  ∀ sz : Nat, Met (gl G) y (.code y cc nL ret :: wsL_law0) { frames := fr, cells := 0, slots := 0, locals := lo } (va_Pc av (fun U => U.heap.size = sz ∧ qB G S U)) (fun _ st oc t => (oc = .returned v ∧ qB G S' t) ∧ va_F (fA (gad G) sz) st t) 0 0 (fA (gad G) sz)
section QL
variable {G : Gx} {X : Cx} {cc : ByteArray} {nL : Nat} {own : String} {fr lo : Nat} {ret : Option FieldType} {Q : State → Prop} {pc : Nat} {lv : List (Nat × Value)} {st : List Value} {S : St}
theorem q_D {A : Nat → Prop} (hi : qinj (gad G)) (hA : ∀ k, k < 59 → A (gad G k)) : va_D A (wl (gad G) (gca G) S) := by
  refine ⟨fun i j p q h1 h2 h3 => ?_, fun k q h => ?_⟩
  · obtain ⟨l1, rfl⟩ := wl_of h1
    obtain ⟨l2, rfl⟩ := wl_of h2
    exact hi i j l1 l2 h3
  · obtain ⟨l1, rfl⟩ := wl_of h
    exact hA k l1
theorem q_Nw {s U : State} (hW : s.WarmedH U.vm) (h : ∀ x ∈ NWs, va_Nw (.declares x) s) : ∀ x ∈ NWs, va_Nw (.declares x) U := fun x hx => va_Nw.warmD hW (h x hx)
theorem q_entry {y : MethodName} {av : List Value} {v : Option Value} {S' : St} (hy : plainName y.cls = true) (hown : y.cls = own) (hi : qinj (gad G)) (hn : (lg_sl av).length ≤ nL)
    (body : ∀ X : Cx, QC G X cc nL own fr lo ret → QW G X nL (QE G X v S') 0 (lv_args 0 av) [] S) : QMet G y cc nL ret fr lo av S v S' := by
  intro sz
  refine Met.ofW (cc := cc) (maxL := nL) (ret := ret) hy rfl ?_
  intro p e s m args below meth c s₁ B hml hv
  obtain ⟨rfl, hsz, hP, hK, hN⟩ := hv
  have hts := atoms_spec (ws := .code y cc nL ret :: wsL_law0) B.pre
  have hl := lv_entry av (n := nL) hn
  rw [lg_entry_eq]
  subst hsz
  have h := body (p, e, (headSpec (.code y cc nL ret :: wsL_law0) { frames := fr, cells := 0, slots := 0, locals := lo }).room, s, m, av.toArray, below, meth, c, fA (gad G) s.heap.size)
    ⟨B.exec, B.bytes, hml, fun w hw => hts w (List.mem_cons_of_mem _ hw), by rw [← hown]; exact findClass_of_methodNamed B.named, hK, hN, hi, fun q hq => Or.inr hq, fun k hk => Or.inl ⟨k, hk, rfl⟩, B.returns, B.notSynchronized, rfl⟩
  exact h s.heap [] _ hP va_S.rf hl
theorem q_iret {v : Int32} (C : QC G X cc nL own fr lo (some .int)) (d : decode cc pc = .ok (.ireturn, 1)) : QW G X nL (QE G X (some (.int v)) S) pc lv [.int v] S := by
  intro H locs ls hP hS hl
  obtain ⟨hx, hb, -, -, -, hK, hN, -, -, -, hr, hlk, -⟩ := C
  exact W.iret (v := v) hx hb hr (fun t ht hW => ⟨⟨rfl, by rw [ht]; exact hP, va_K.moved hW.alike hK, q_Nw hW hN⟩, hS.F ht⟩) hS.2.2 d hlk
theorem q_zret {v : Int32} {ty : FieldType} (C : QC G X cc nL own fr lo (some ty)) (hn : narrow ty (.int v) = .int v) (d : decode cc pc = .ok (.ireturn, 1)) : QW G X nL (QE G X (some (.int v)) S) pc lv [.int v] S := by
  intro H locs ls hP hS hl
  obtain ⟨hx, hb, -, -, -, hK, hN, -, -, -, hr, hlk, -⟩ := C
  exact W.zret (v := v) hx hb hr hn (fun t ht hW => ⟨⟨rfl, by rw [ht]; exact hP, va_K.moved hW.alike hK, q_Nw hW hN⟩, hS.F ht⟩) hS.2.2 d hlk
theorem q_lret {v : Int64} (C : QC G X cc nL own fr lo (some .long)) (d : decode cc pc = .ok (.lreturn, 1)) : QW G X nL (QE G X (some (.long v)) S) pc lv [.long v] S := by
  intro H locs ls hP hS hl
  obtain ⟨hx, hb, -, -, -, hK, hN, -, -, -, hr, hlk, -⟩ := C
  exact W.lret (v := v) hx hb hr (fun t ht hW => ⟨⟨rfl, by rw [ht]; exact hP, va_K.moved hW.alike hK, q_Nw hW hN⟩, hS.F ht⟩) hS.2.2 d hlk
theorem q_vret (C : QC G X cc nL own fr lo none) (d : decode cc pc = .ok (.return_, 1)) : QW G X nL (QE G X none S) pc lv [] S := by
  intro H locs ls hP hS hl
  obtain ⟨hx, hb, -, -, -, hK, hN, -, -, -, hr, hlk, -⟩ := C
  exact W.vret hx hb hr (fun t ht hW => ⟨⟨rfl, by rw [ht]; exact hP, va_K.moved hW.alike hK, q_Nw hW hN⟩, hS.F ht⟩) hS.2.2 d hlk
/-- fewer locals, in another order -/
theorem q_lv {lv' : List (Nat × Value)} (ks : List Nat) (hl : lv_pick lv ks = lv') (kk : QW G X nL Q pc lv' st S) : QW G X nL Q pc lv st S :=
  fun H locs ls hP hS h => kk H locs ls hP hS (lv_sub h ks hl)
theorem q_pc {pc' : Nat} (h : pc = pc') (kk : QW G X nL Q pc' lv st S) : QW G X nL Q pc lv st S := h ▸ kk
theorem q_iconst (C : QC G X cc nL own fr lo ret) {n : Int} {v : Int32} (d : decode cc pc = .ok (.iconst n, 1)) (hv : Int32.ofInt n = v) (kk : QW G X nL Q (pc + 1) lv (.int v :: st) S) : QW G X nL Q pc lv (st) S :=
  fun H locs ls hP hS hl => lv_iconst C.1 C.2.1 d hv (kk H locs ls hP hS hl)
theorem q_bipush (C : QC G X cc nL own fr lo ret) {n : Int} {v : Int32} (d : decode cc pc = .ok (.bipush n, 2)) (hv : (Int8.ofInt n).toInt32 = v) (kk : QW G X nL Q (pc + 2) lv (.int v :: st) S) : QW G X nL Q pc lv (st) S :=
  fun H locs ls hP hS hl => lv_bipush C.1 C.2.1 d hv (kk H locs ls hP hS hl)
theorem q_sipush (C : QC G X cc nL own fr lo ret) {n : Int} {v : Int32} (d : decode cc pc = .ok (.sipush n, 3)) (hv : (Int16.ofInt n).toInt32 = v) (kk : QW G X nL Q (pc + 3) lv (.int v :: st) S) : QW G X nL Q pc lv (st) S :=
  fun H locs ls hP hS hl => lv_sipush C.1 C.2.1 d hv (kk H locs ls hP hS hl)
theorem q_iload_n (C : QC G X cc nL own fr lo ret) {k : Fin 4} {i : Nat} {x : Int32} (d : decode cc pc = .ok (.iload_n k, 1)) (hi : (k : Nat) = i) (j : Nat) (hk : lv[j]? = some (i, .int x)) (kk : QW G X nL Q (pc + 1) lv (.int x :: st) S) : QW G X nL Q pc lv (st) S :=
  fun H locs ls hP hS hl => lv_iload_n C.1 C.2.1 d hi (lv_at hl j hk) (kk H locs ls hP hS hl)
theorem q_iload (C : QC G X cc nL own fr lo ret) {i : Nat} {x : Int32} (d : decode cc pc = .ok (.iload i, 2)) (j : Nat) (hk : lv[j]? = some (i, .int x)) (kk : QW G X nL Q (pc + 2) lv (.int x :: st) S) : QW G X nL Q pc lv (st) S :=
  fun H locs ls hP hS hl => lv_iload C.1 C.2.1 d (lv_at hl j hk) (kk H locs ls hP hS hl)
theorem q_aload_n (C : QC G X cc nL own fr lo ret) {k : Fin 4} {i : Nat} {x : Nat} (d : decode cc pc = .ok (.aload_n k, 1)) (hi : (k : Nat) = i) (j : Nat) (hk : lv[j]? = some (i, .ref x)) (kk : QW G X nL Q (pc + 1) lv (.ref x :: st) S) : QW G X nL Q pc lv (st) S :=
  fun H locs ls hP hS hl => lv_aload_n C.1 C.2.1 d hi (lv_at hl j hk) (kk H locs ls hP hS hl)
theorem q_aload (C : QC G X cc nL own fr lo ret) {i : Nat} {x : Nat} (d : decode cc pc = .ok (.aload i, 2)) (j : Nat) (hk : lv[j]? = some (i, .ref x)) (kk : QW G X nL Q (pc + 2) lv (.ref x :: st) S) : QW G X nL Q pc lv (st) S :=
  fun H locs ls hP hS hl => lv_aload C.1 C.2.1 d (lv_at hl j hk) (kk H locs ls hP hS hl)
theorem q_lload_n (C : QC G X cc nL own fr lo ret) {k : Fin 4} {i : Nat} {x : Int64} (d : decode cc pc = .ok (.lload_n k, 1)) (hi : (k : Nat) = i) (j : Nat) (hk : lv[j]? = some (i, .long x)) (kk : QW G X nL Q (pc + 1) lv (.long x :: st) S) : QW G X nL Q pc lv (st) S :=
  fun H locs ls hP hS hl => lv_lload_n C.1 C.2.1 d hi (lv_at hl j hk) (kk H locs ls hP hS hl)
theorem q_lload (C : QC G X cc nL own fr lo ret) {i : Nat} {x : Int64} (d : decode cc pc = .ok (.lload i, 2)) (j : Nat) (hk : lv[j]? = some (i, .long x)) (kk : QW G X nL Q (pc + 2) lv (.long x :: st) S) : QW G X nL Q pc lv (st) S :=
  fun H locs ls hP hS hl => lv_lload C.1 C.2.1 d (lv_at hl j hk) (kk H locs ls hP hS hl)
theorem q_istore_n (C : QC G X cc nL own fr lo ret) {k : Fin 4} {i : Nat} {x : Int32} {lv' : List (Nat × Value)} (d : decode cc pc = .ok (.istore_n k, 1)) (hi : (k : Nat) = i) (hn : i < nL) (he : (i, Value.int x) :: lv.filter (fun q => !(q.1 == i) && !(q.1 + 1 == i && q.2.category == 2)) = lv') (kk : QW G X nL Q (pc + 1) lv' st S) : QW G X nL Q pc lv (.int x :: st) S :=
  fun H locs ls hP hS hl => lv_istore_n C.1 C.2.1 d hi hl hn he (fun ls hl => kk H locs ls hP hS hl)
theorem q_istore (C : QC G X cc nL own fr lo ret) {i : Nat} {x : Int32} {lv' : List (Nat × Value)} (d : decode cc pc = .ok (.istore i, 2)) (hn : i < nL) (he : (i, Value.int x) :: lv.filter (fun q => !(q.1 == i) && !(q.1 + 1 == i && q.2.category == 2)) = lv') (kk : QW G X nL Q (pc + 2) lv' st S) : QW G X nL Q pc lv (.int x :: st) S :=
  fun H locs ls hP hS hl => lv_istore C.1 C.2.1 d hl hn he (fun ls hl => kk H locs ls hP hS hl)
theorem q_astore_n (C : QC G X cc nL own fr lo ret) {k : Fin 4} {i : Nat} {x : Nat} {lv' : List (Nat × Value)} (d : decode cc pc = .ok (.astore_n k, 1)) (hi : (k : Nat) = i) (hn : i < nL) (he : (i, Value.ref x) :: lv.filter (fun q => !(q.1 == i) && !(q.1 + 1 == i && q.2.category == 2)) = lv') (kk : QW G X nL Q (pc + 1) lv' st S) : QW G X nL Q pc lv (.ref x :: st) S :=
  fun H locs ls hP hS hl => lv_astore_n C.1 C.2.1 d hi hl hn he (fun ls hl => kk H locs ls hP hS hl)
theorem q_astore (C : QC G X cc nL own fr lo ret) {i : Nat} {x : Nat} {lv' : List (Nat × Value)} (d : decode cc pc = .ok (.astore i, 2)) (hn : i < nL) (he : (i, Value.ref x) :: lv.filter (fun q => !(q.1 == i) && !(q.1 + 1 == i && q.2.category == 2)) = lv') (kk : QW G X nL Q (pc + 2) lv' st S) : QW G X nL Q pc lv (.ref x :: st) S :=
  fun H locs ls hP hS hl => lv_astore C.1 C.2.1 d hl hn he (fun ls hl => kk H locs ls hP hS hl)
theorem q_lstore_n (C : QC G X cc nL own fr lo ret) {k : Fin 4} {i : Nat} {x : Int64} {lv' : List (Nat × Value)} (d : decode cc pc = .ok (.lstore_n k, 1)) (hi : (k : Nat) = i) (hn : i + 1 < nL) (he : (i, Value.long x) :: lv.filter (fun q => !(q.1 == i) && (!(q.1 == i + 1) && !(q.1 + 1 == i && q.2.category == 2))) = lv') (kk : QW G X nL Q (pc + 1) lv' st S) : QW G X nL Q pc lv (.long x :: st) S :=
  fun H locs ls hP hS hl => lv_lstore_n C.1 C.2.1 d hi hl hn he (fun ls hl => kk H locs ls hP hS hl)
theorem q_lstore (C : QC G X cc nL own fr lo ret) {i : Nat} {x : Int64} {lv' : List (Nat × Value)} (d : decode cc pc = .ok (.lstore i, 2)) (hn : i + 1 < nL) (he : (i, Value.long x) :: lv.filter (fun q => !(q.1 == i) && (!(q.1 == i + 1) && !(q.1 + 1 == i && q.2.category == 2))) = lv') (kk : QW G X nL Q (pc + 2) lv' st S) : QW G X nL Q pc lv (.long x :: st) S :=
  fun H locs ls hP hS hl => lv_lstore C.1 C.2.1 d hl hn he (fun ls hl => kk H locs ls hP hS hl)
theorem q_iinc (C : QC G X cc nL own fr lo ret) {i k : Nat} {n : Int} {x v : Int32} {lv' : List (Nat × Value)} (d : decode cc pc = .ok (.iinc i n, 3)) (hk : lv[k]? = some (i, .int x)) (hv : x + Int32.ofInt n = v) (hn : i < nL) (he : (i, Value.int v) :: lv.filter (fun q => !(q.1 == i) && !(q.1 + 1 == i && q.2.category == 2)) = lv') (kk : QW G X nL Q (pc + 3) lv' st S) : QW G X nL Q pc lv st S :=
  fun H locs ls hP hS hl => lv_iinc C.1 C.2.1 d hl hk hv hn he (fun ls hl => kk H locs ls hP hS hl)
theorem q_iadd (C : QC G X cc nL own fr lo ret) {x y : Int32} (d : decode cc pc = .ok (.iadd, 1)) (kk : QW G X nL Q (pc + 1) lv (.int (x + y) :: st) S) : QW G X nL Q pc lv (.int y :: .int x :: st) S :=
  fun H locs ls hP hS hl => lv_iadd C.1 C.2.1 d (kk H locs ls hP hS hl)
theorem q_isub (C : QC G X cc nL own fr lo ret) {x y : Int32} (d : decode cc pc = .ok (.isub, 1)) (kk : QW G X nL Q (pc + 1) lv (.int (x - y) :: st) S) : QW G X nL Q pc lv (.int y :: .int x :: st) S :=
  fun H locs ls hP hS hl => lv_isub C.1 C.2.1 d (kk H locs ls hP hS hl)
theorem q_imul (C : QC G X cc nL own fr lo ret) {x y : Int32} (d : decode cc pc = .ok (.imul, 1)) (kk : QW G X nL Q (pc + 1) lv (.int (x * y) :: st) S) : QW G X nL Q pc lv (.int y :: .int x :: st) S :=
  fun H locs ls hP hS hl => lv_imul C.1 C.2.1 d (kk H locs ls hP hS hl)
theorem q_iand (C : QC G X cc nL own fr lo ret) {x y : Int32} (d : decode cc pc = .ok (.iand, 1)) (kk : QW G X nL Q (pc + 1) lv (.int (x &&& y) :: st) S) : QW G X nL Q pc lv (.int y :: .int x :: st) S :=
  fun H locs ls hP hS hl => lv_iand C.1 C.2.1 d (kk H locs ls hP hS hl)
theorem q_idiv (C : QC G X cc nL own fr lo ret) {x y : Int32} (d : decode cc pc = .ok (.idiv, 1)) (hne : ¬ y = 0) (kk : QW G X nL Q (pc + 1) lv (.int (x / y) :: st) S) : QW G X nL Q pc lv (.int y :: .int x :: st) S :=
  fun H locs ls hP hS hl => lv_idiv C.1 C.2.1 d hne (kk H locs ls hP hS hl)
theorem q_irem (C : QC G X cc nL own fr lo ret) {x y : Int32} (d : decode cc pc = .ok (.irem, 1)) (hne : ¬ y = 0) (kk : QW G X nL Q (pc + 1) lv (.int (x - x / y * y) :: st) S) : QW G X nL Q pc lv (.int y :: .int x :: st) S :=
  fun H locs ls hP hS hl => lv_irem C.1 C.2.1 d hne (kk H locs ls hP hS hl)
theorem q_ishr (C : QC G X cc nL own fr lo ret) {x y : Int32} (d : decode cc pc = .ok (.ishr, 1)) (kk : QW G X nL Q (pc + 1) lv (.int (x >>> (y &&& 31)) :: st) S) : QW G X nL Q pc lv (.int y :: .int x :: st) S :=
  fun H locs ls hP hS hl => lv_ishr C.1 C.2.1 d (kk H locs ls hP hS hl)
theorem q_lcmp (C : QC G X cc nL own fr lo ret) {x y : Int64} (d : decode cc pc = .ok (.lcmp, 1)) (kk : QW G X nL Q (pc + 1) lv (.int (lg_cmp x y) :: st) S) : QW G X nL Q pc lv (.long y :: .long x :: st) S :=
  fun H locs ls hP hS hl => W.lcmp C.1 C.2.1 d (kk H locs ls hP hS hl)
theorem q_ladd (C : QC G X cc nL own fr lo ret) {x y : Int64} (d : decode cc pc = .ok (.ladd, 1)) (kk : QW G X nL Q (pc + 1) lv (.long (x + y) :: st) S) : QW G X nL Q pc lv (.long y :: .long x :: st) S :=
  fun H locs ls hP hS hl => lv_ladd C.1 C.2.1 d (kk H locs ls hP hS hl)
theorem q_lmul (C : QC G X cc nL own fr lo ret) {x y : Int64} (d : decode cc pc = .ok (.lmul, 1)) (kk : QW G X nL Q (pc + 1) lv (.long (x * y) :: st) S) : QW G X nL Q pc lv (.long y :: .long x :: st) S :=
  fun H locs ls hP hS hl => lv_lmul C.1 C.2.1 d (kk H locs ls hP hS hl)
theorem q_i2l (C : QC G X cc nL own fr lo ret) {x : Int32} (d : decode cc pc = .ok (.i2l, 1)) (kk : QW G X nL Q (pc + 1) lv (.long x.toInt64 :: st) S) : QW G X nL Q pc lv (.int x :: st) S :=
  fun H locs ls hP hS hl => lv_i2l C.1 C.2.1 d rfl (kk H locs ls hP hS hl)
theorem q_ldc (C : QC G X cc nL own fr lo ret) {index : Nat} {v : Int32} (hw : Jvm.Cond.constant own index v ∈ wsL_law0) (d : decode cc pc = .ok (.ldc index, 2)) (kk : QW G X nL Q (pc + 2) lv (.int v :: st) S) : QW G X nL Q pc lv st S :=
  fun H locs ls hP hS hl => lv_ldc C.1 C.2.1 C.2.2.2.2.1 (C.2.2.2.1 _ hw) d (kk H locs ls hP hS hl)
theorem q_ldc2 (C : QC G X cc nL own fr lo ret) {index : Nat} {v : Int64} (hw : Jvm.Cond.constantLong own index v ∈ wsL_law0) (d : decode cc pc = .ok (.ldc2_w index, 3)) (kk : QW G X nL Q (pc + 3) lv (.long v :: st) S) : QW G X nL Q pc lv st S :=
  fun H locs ls hP hS hl => lv_ldc2 C.1 C.2.1 C.2.2.2.2.1 (C.2.2.2.1 _ hw) d (kk H locs ls hP hS hl)
theorem q_dup (C : QC G X cc nL own fr lo ret) {va : Value} (d : decode cc pc = .ok (.dup, 1)) (hva : va.category = 1) (kk : QW G X nL Q (pc + 1) lv (va :: va :: st) S) : QW G X nL Q pc lv (va :: st) S :=
  fun H locs ls hP hS hl => lv_dup C.1 C.2.1 d hva (kk H locs ls hP hS hl)
theorem q_dup2 (C : QC G X cc nL own fr lo ret) {va vb : Value} (d : decode cc pc = .ok (.dup2, 1)) (hva : va.category = 1) (hvb : vb.category = 1) (kk : QW G X nL Q (pc + 1) lv (va :: vb :: va :: vb :: st) S) : QW G X nL Q pc lv (va :: vb :: st) S :=
  fun H locs ls hP hS hl => lv_dup2_11 C.1 C.2.1 d hva hvb (kk H locs ls hP hS hl)
theorem q_pop (C : QC G X cc nL own fr lo ret) {va : Value} (d : decode cc pc = .ok (.pop, 1)) (hva : va.category = 1) (kk : QW G X nL Q (pc + 1) lv st S) : QW G X nL Q pc lv (va :: st) S :=
  fun H locs ls hP hS hl => lv_pop C.1 C.2.1 d hva (kk H locs ls hP hS hl)
theorem q_goto (C : QC G X cc nL own fr lo ret) {off : Int} {tgt : Nat} (d : decode cc pc = .ok (.goto off, 3)) (ht : (pc : Int) + off = (tgt : Int)) (kk : QW G X nL Q tgt lv st S) : QW G X nL Q pc lv st S :=
  fun H locs ls hP hS hl => lv_goto C.1 C.2.1 d ht (kk H locs ls hP hS hl)
theorem q_if_eq (C : QC G X cc nL own fr lo ret) {x : Int32} {off : Int} {tgt : Nat} (d : decode cc pc = .ok (.ifCond .eq off, 3)) (ht : (pc : Int) + off = (tgt : Int)) (kt : x = 0 → QW G X nL Q tgt lv st S) (kf : ¬ x = 0 → QW G X nL Q (pc + 3) lv st S) : QW G X nL Q pc lv (.int x :: st) S :=
  fun H locs ls hP hS hl => lv_if_eq C.1 C.2.1 d ht (fun c => kt c H locs ls hP hS hl) (fun c => kf c H locs ls hP hS hl)
theorem q_icmp_eq (C : QC G X cc nL own fr lo ret) {x y : Int32} {off : Int} {tgt : Nat} (d : decode cc pc = .ok (.if_icmp .eq off, 3)) (ht : (pc : Int) + off = (tgt : Int)) (kt : x = y → QW G X nL Q tgt lv st S) (kf : ¬ x = y → QW G X nL Q (pc + 3) lv st S) : QW G X nL Q pc lv (.int y :: .int x :: st) S :=
  fun H locs ls hP hS hl => lv_icmp_eq C.1 C.2.1 d ht (fun c => kt c H locs ls hP hS hl) (fun c => kf c H locs ls hP hS hl)
theorem q_if_ne (C : QC G X cc nL own fr lo ret) {x : Int32} {off : Int} {tgt : Nat} (d : decode cc pc = .ok (.ifCond .ne off, 3)) (ht : (pc : Int) + off = (tgt : Int)) (kt : ¬ x = 0 → QW G X nL Q tgt lv st S) (kf : x = 0 → QW G X nL Q (pc + 3) lv st S) : QW G X nL Q pc lv (.int x :: st) S :=
  fun H locs ls hP hS hl => lv_if_ne C.1 C.2.1 d ht (fun c => kt c H locs ls hP hS hl) (fun c => kf c H locs ls hP hS hl)
theorem q_icmp_ne (C : QC G X cc nL own fr lo ret) {x y : Int32} {off : Int} {tgt : Nat} (d : decode cc pc = .ok (.if_icmp .ne off, 3)) (ht : (pc : Int) + off = (tgt : Int)) (kt : ¬ x = y → QW G X nL Q tgt lv st S) (kf : x = y → QW G X nL Q (pc + 3) lv st S) : QW G X nL Q pc lv (.int y :: .int x :: st) S :=
  fun H locs ls hP hS hl => lv_icmp_ne C.1 C.2.1 d ht (fun c => kt c H locs ls hP hS hl) (fun c => kf c H locs ls hP hS hl)
theorem q_if_lt (C : QC G X cc nL own fr lo ret) {x : Int32} {off : Int} {tgt : Nat} (d : decode cc pc = .ok (.ifCond .lt off, 3)) (ht : (pc : Int) + off = (tgt : Int)) (kt : x < 0 → QW G X nL Q tgt lv st S) (kf : ¬ x < 0 → QW G X nL Q (pc + 3) lv st S) : QW G X nL Q pc lv (.int x :: st) S :=
  fun H locs ls hP hS hl => lv_if_lt C.1 C.2.1 d ht (fun c => kt c H locs ls hP hS hl) (fun c => kf c H locs ls hP hS hl)
theorem q_icmp_lt (C : QC G X cc nL own fr lo ret) {x y : Int32} {off : Int} {tgt : Nat} (d : decode cc pc = .ok (.if_icmp .lt off, 3)) (ht : (pc : Int) + off = (tgt : Int)) (kt : x < y → QW G X nL Q tgt lv st S) (kf : ¬ x < y → QW G X nL Q (pc + 3) lv st S) : QW G X nL Q pc lv (.int y :: .int x :: st) S :=
  fun H locs ls hP hS hl => lv_icmp_lt C.1 C.2.1 d ht (fun c => kt c H locs ls hP hS hl) (fun c => kf c H locs ls hP hS hl)
theorem q_if_ge (C : QC G X cc nL own fr lo ret) {x : Int32} {off : Int} {tgt : Nat} (d : decode cc pc = .ok (.ifCond .ge off, 3)) (ht : (pc : Int) + off = (tgt : Int)) (kt : 0 ≤ x → QW G X nL Q tgt lv st S) (kf : ¬ 0 ≤ x → QW G X nL Q (pc + 3) lv st S) : QW G X nL Q pc lv (.int x :: st) S :=
  fun H locs ls hP hS hl => lv_if_ge C.1 C.2.1 d ht (fun c => kt c H locs ls hP hS hl) (fun c => kf c H locs ls hP hS hl)
theorem q_icmp_ge (C : QC G X cc nL own fr lo ret) {x y : Int32} {off : Int} {tgt : Nat} (d : decode cc pc = .ok (.if_icmp .ge off, 3)) (ht : (pc : Int) + off = (tgt : Int)) (kt : y ≤ x → QW G X nL Q tgt lv st S) (kf : ¬ y ≤ x → QW G X nL Q (pc + 3) lv st S) : QW G X nL Q pc lv (.int y :: .int x :: st) S :=
  fun H locs ls hP hS hl => lv_icmp_ge C.1 C.2.1 d ht (fun c => kt c H locs ls hP hS hl) (fun c => kf c H locs ls hP hS hl)
theorem q_if_gt (C : QC G X cc nL own fr lo ret) {x : Int32} {off : Int} {tgt : Nat} (d : decode cc pc = .ok (.ifCond .gt off, 3)) (ht : (pc : Int) + off = (tgt : Int)) (kt : 0 < x → QW G X nL Q tgt lv st S) (kf : ¬ 0 < x → QW G X nL Q (pc + 3) lv st S) : QW G X nL Q pc lv (.int x :: st) S :=
  fun H locs ls hP hS hl => lv_if_gt C.1 C.2.1 d ht (fun c => kt c H locs ls hP hS hl) (fun c => kf c H locs ls hP hS hl)
theorem q_icmp_gt (C : QC G X cc nL own fr lo ret) {x y : Int32} {off : Int} {tgt : Nat} (d : decode cc pc = .ok (.if_icmp .gt off, 3)) (ht : (pc : Int) + off = (tgt : Int)) (kt : y < x → QW G X nL Q tgt lv st S) (kf : ¬ y < x → QW G X nL Q (pc + 3) lv st S) : QW G X nL Q pc lv (.int y :: .int x :: st) S :=
  fun H locs ls hP hS hl => lv_icmp_gt C.1 C.2.1 d ht (fun c => kt c H locs ls hP hS hl) (fun c => kf c H locs ls hP hS hl)
theorem q_if_le (C : QC G X cc nL own fr lo ret) {x : Int32} {off : Int} {tgt : Nat} (d : decode cc pc = .ok (.ifCond .le off, 3)) (ht : (pc : Int) + off = (tgt : Int)) (kt : x ≤ 0 → QW G X nL Q tgt lv st S) (kf : ¬ x ≤ 0 → QW G X nL Q (pc + 3) lv st S) : QW G X nL Q pc lv (.int x :: st) S :=
  fun H locs ls hP hS hl => lv_if_le C.1 C.2.1 d ht (fun c => kt c H locs ls hP hS hl) (fun c => kf c H locs ls hP hS hl)
theorem q_icmp_le (C : QC G X cc nL own fr lo ret) {x y : Int32} {off : Int} {tgt : Nat} (d : decode cc pc = .ok (.if_icmp .le off, 3)) (ht : (pc : Int) + off = (tgt : Int)) (kt : x ≤ y → QW G X nL Q tgt lv st S) (kf : ¬ x ≤ y → QW G X nL Q (pc + 3) lv st S) : QW G X nL Q pc lv (.int y :: .int x :: st) S :=
  fun H locs ls hP hS hl => lv_icmp_le C.1 C.2.1 d ht (fun c => kt c H locs ls hP hS hl) (fun c => kf c H locs ls hP hS hl)
theorem q_tableOut (C : QC G X cc nL own fr lo ret) {dflt lo1 hi1 : Int} {offs : Array Int} {len : Nat} {x : Int32} {tgt : Nat} (d : decode cc pc = .ok (.tableswitch dflt lo1 hi1 offs, len)) (h : x.toInt < lo1 ∨ hi1 < x.toInt) (ht : (pc : Int) + dflt = (tgt : Int)) (kk : QW G X nL Q tgt lv st S) : QW G X nL Q pc lv (.int x :: st) S :=
  fun H locs ls hP hS hl => lv_tableOut C.1 C.2.1 d h ht (kk H locs ls hP hS hl)
theorem q_tableIn (C : QC G X cc nL own fr lo ret) {dflt lo1 hi1 : Int} {offs : Array Int} {len : Nat} {x : Int32} {off : Int} {tgt : Nat} (d : decode cc pc = .ok (.tableswitch dflt lo1 hi1 offs, len)) (h1 : ¬ x.toInt < lo1) (h2 : ¬ hi1 < x.toInt) (ho : offs[(x.toInt - lo1).toNat]? = some off) (ht : (pc : Int) + off = (tgt : Int)) (kk : QW G X nL Q tgt lv st S) : QW G X nL Q pc lv (.int x :: st) S :=
  fun H locs ls hP hS hl => lv_tableIn C.1 C.2.1 d h1 h2 ho ht (kk H locs ls hP hS hl)
theorem q_lookup (C : QC G X cc nL own fr lo ret) {dflt : Int} {ps : Array (Int × Int)} {len : Nat} {x : Int32} {off : Int} {tgt : Nat} (d : decode cc pc = .ok (.lookupswitch dflt ps, len)) (hp : (ps.toList.zip (ps.toList.drop 1)).all (fun (a, next) => a.1 < next.1) = true) (ho : Op.lookupswitch.offset ps.toList dflt x.toInt = off) (ht : (pc : Int) + off = (tgt : Int)) (kk : QW G X nL Q tgt lv st S) : QW G X nL Q pc lv (.int x :: st) S :=
  fun H locs ls hP hS hl => lv_lookup C.1 C.2.1 d hp ho ht (kk H locs ls hP hS hl)
theorem q_get {k ci j index N : Nat} {fs : List Value} {v : Value} {ref Cn : String} {T : u_T} (C : QC G X cc nL own fr lo ret) (hk : k < 59) (he : cE (gad G) (gca G) k (S k) = .inr (ci, fs)) (hc : vwCl[ci]? = some (Cn, T, N)) (hin : ∀ w ∈ u_ws Cn T N, w ∈ wsL_law0) (hj : j < N) (hv : fs[j]? = some v) (hlink : Cond.fieldLink own index ref (T j).2.1 (T j).2.2.1 ∈ wsL_law0) (hsame : (T j).1 = ref ∨ Cond.sameField ref (T j).1 (T j).2.1 (T j).2.2.1 ∈ wsL_law0) (d : decode cc pc = .ok (.getfield index, 3)) (kk : QW G X nL Q (pc + 3) lv (v :: st) S) : QW G X nL Q pc lv (.ref (gad G k) :: st) S := by
  intro H locs ls hP hS hl
  obtain ⟨hx, hb, -, hts, hown, hK, -⟩ := C
  refine va_get (D := gD G) (ci := ci) (v := v) (C := Cn) (T := T) (N := N) hx hb hts hin hown hK hP k (by rw [wl_at hk, he]) hc j hj (hts _ hlink) ?_ hv d (kk H locs ls hP hS hl)
  rcases hsame with h | h
  · rw [h]; exact fun _ h9 => h9
  · exact fun x hx9 => u_same (hts _ h) x hx9
theorem q_put {k ci j index N : Nat} {fs : List Value} {x : Int32} {ty : FieldType} {ref Cn : String} {T : u_T} (C : QC G X cc nL own fr lo ret) (ty0 : Nat → FieldType) (hty : ∀ k, k < N → parseFieldDescriptor (T k).2.2.1 = some (ty0 k)) (hnm : ∀ a, a < N → ∀ b, b < N → a ≠ b → (T a).2.1 ≠ (T b).2.1) (hk : k < 59) (he : cE (gad G) (gca G) k (S k) = .inr (ci, fs)) (hput : cE (gad G) (gca G) k (upd (S k) j x) = .inr (ci, fs.set j (.int x))) (hc : vwCl[ci]? = some (Cn, T, N)) (hin : ∀ w ∈ u_ws Cn T N, w ∈ wsL_law0) (hj : j < N) (hl9 : j < fs.length) (hlink : Cond.fieldLink own index ref (T j).2.1 (T j).2.2.1 ∈ wsL_law0) (hsame : (T j).1 = ref ∨ Cond.sameField ref (T j).1 (T j).2.1 (T j).2.2.1 ∈ wsL_law0) (hfin : (T j).2.2.2 = false) (hd : parseFieldDescriptor (T j).2.2.1 = some ty) (hn : narrow ty (.int x) = .int x) (hfit : fits ty (.int x) = true) (d : decode cc pc = .ok (.putfield index, 3)) (kk : QW G X nL Q (pc + 3) lv st (u2 S k j x)) : QW G X nL Q pc lv (.int x :: .ref (gad G k) :: st) S := by
  intro H locs ls hP hS hl
  obtain ⟨hx, hb, -, hts, hown, hK, -, hi, -, hA, -⟩ := C
  refine va_put (D := gD G) (ci := ci) (v := .int x) (ty := ty) (C := Cn) (T := T) (N := N) hx hb hts hin ty0 hty hnm hown hK hP (q_D (A := xA X) hi hA) hS k (by rw [wl_at hk, he]) hc j hj (hts _ hlink) ?_ hfin hd hn hfit hl9 d (fun H1 locs1 hP1 _ hS1 => kk H1 locs1 ls ?_ hS1 hl)
  · rcases hsame with h | h
    · rw [h]; exact fun _ h9 => h9
    · exact fun x hx9 => u_same (hts _ h) x hx9
  · rw [wl_set hput] at hP1
    exact hP1
theorem q_iald {k t0 n : Nat} {i : Int32} (C : QC G X cc nL own fr lo ret) (hk : k < 59) (he : cE (gad G) (gca G) k (S k) = .inl (gca G k, n, .inl (S k))) (ht : (TYS (gca G))[t0]? = some (gca G k, .int)) (hin : vp_in i n) (d : decode cc pc = .ok (.iaload, 1)) (kk : QW G X nL Q (pc + 1) lv (.int (S k i.toNatClampNeg) :: st) S) : QW G X nL Q pc lv (.int i :: .ref (gad G k) :: st) S := by
  intro H locs ls hP hS hl
  obtain ⟨hx, hb, -, hts, hown, hK, -⟩ := C
  exact va_iald hx hb hK hP k t0 (by rw [wl_at hk, he]) ht hin d (kk H locs ls hP hS hl)
theorem q_zald {k t0 n : Nat} {i : Int32} (C : QC G X cc nL own fr lo ret) (hk : k < 59) (he : cE (gad G) (gca G) k (S k) = .inl (gca G k, n, .inl (S k))) (ht : (TYS (gca G))[t0]? = some (gca G k, .boolean)) (hin : vp_in i n) (d : decode cc pc = .ok (.baload, 1)) (kk : QW G X nL Q (pc + 1) lv (.int (S k i.toNatClampNeg) :: st) S) : QW G X nL Q pc lv (.int i :: .ref (gad G k) :: st) S := by
  intro H locs ls hP hS hl
  obtain ⟨hx, hb, -, hts, hown, hK, -⟩ := C
  exact va_zald hx hb hK hP k t0 (by rw [wl_at hk, he]) ht hin d (kk H locs ls hP hS hl)
theorem q_iast {k t0 n : Nat} {i x : Int32} (C : QC G X cc nL own fr lo ret) (hk : k < 59) (he : ∀ row, cE (gad G) (gca G) k row = .inl (gca G k, n, .inl row)) (ht : (TYS (gca G))[t0]? = some (gca G k, .int)) (hin : vp_in i n) (d : decode cc pc = .ok (.iastore, 1)) (kk : QW G X nL Q (pc + 1) lv st (u2 S k i.toNatClampNeg x)) : QW G X nL Q pc lv (.int x :: .int i :: .ref (gad G k) :: st) S := by
  intro H locs ls hP hS hl
  obtain ⟨hx, hb, -, hts, hown, hK, -, hi, -, hA, -⟩ := C
  refine va_iast hx hb hK hP (q_D (A := xA X) hi hA) hS k t0 (by rw [wl_at hk, he]) ht hin d (fun H1 locs1 hP1 _ hS1 => kk H1 locs1 ls ?_ hS1 hl)
  rw [wl_set (he _)] at hP1
  exact hP1
theorem q_zast {k t0 n : Nat} {i x : Int32} (C : QC G X cc nL own fr lo ret) (hk : k < 59) (he : ∀ row, cE (gad G) (gca G) k row = .inl (gca G k, n, .inl row)) (ht : (TYS (gca G))[t0]? = some (gca G k, .boolean)) (hin : vp_in i n) (d : decode cc pc = .ok (.bastore, 1)) (kk : QW G X nL Q (pc + 1) lv st (u2 S k i.toNatClampNeg (vp_nar .boolean x))) : QW G X nL Q pc lv (.int x :: .int i :: .ref (gad G k) :: st) S := by
  intro H locs ls hP hS hl
  obtain ⟨hx, hb, -, hts, hown, hK, -, hi, -, hA, -⟩ := C
  refine va_zast hx hb hK hP (q_D (A := xA X) hi hA) hS k t0 (by rw [wl_at hk, he]) ht hin d (fun H1 locs1 hP1 _ hS1 => kk H1 locs1 ls ?_ hS1 hl)
  rw [wl_set (he _)] at hP1
  exact hP1
theorem nar0 : vp_nar .boolean 0 = 0 := by decide
theorem nar1 : vp_nar .boolean 1 = 1 := by decide
theorem q_zast0 {k t0 n : Nat} {i : Int32} (C : QC G X cc nL own fr lo ret) (hk : k < 59) (he : ∀ row, cE (gad G) (gca G) k row = .inl (gca G k, n, .inl row)) (ht : (TYS (gca G))[t0]? = some (gca G k, .boolean)) (hin : vp_in i n) (d : decode cc pc = .ok (.bastore, 1)) (kk : QW G X nL Q (pc + 1) lv st (u2 S k i.toNatClampNeg 0)) : QW G X nL Q pc lv (.int 0 :: .int i :: .ref (gad G k) :: st) S :=
  q_zast C hk he ht hin d (by rw [nar0]; exact kk)
theorem q_zast1 {k t0 n : Nat} {i : Int32} (C : QC G X cc nL own fr lo ret) (hk : k < 59) (he : ∀ row, cE (gad G) (gca G) k row = .inl (gca G k, n, .inl row)) (ht : (TYS (gca G))[t0]? = some (gca G k, .boolean)) (hin : vp_in i n) (d : decode cc pc = .ok (.bastore, 1)) (kk : QW G X nL Q (pc + 1) lv st (u2 S k i.toNatClampNeg 1)) : QW G X nL Q pc lv (.int 1 :: .int i :: .ref (gad G k) :: st) S :=
  q_zast C hk he ht hin d (by rw [nar1]; exact kk)
theorem q_aret {k : Nat} {rt : FieldType} (C : QC G X cc nL own fr lo (some rt)) (hr9 : (∃ n, rt = FieldType.object n) ∨ ∃ t, rt = FieldType.array t) (d : decode cc pc = .ok (.areturn, 1)) : QW G X nL (QE G X (some (.ref (gad G k))) S) pc lv [.ref (gad G k)] S := by
  intro H locs ls hP hS hl
  obtain ⟨hx, hb, -, -, -, hK, hN, -, -, -, hr, hlk, -⟩ := C
  exact W.aret (v := .ref (gad G k)) hx hb hr hr9 (Or.inr ⟨_, rfl⟩) (fun t ht hW => ⟨⟨rfl, by rw [ht]; exact hP, va_K.moved hW.alike hK, q_Nw hW hN⟩, hS.F ht⟩) hS.2.2 d hlk
theorem q_out {x : Int32} (n : Nat) (hn : n < 2 ^ 31) (l : List Int32) (hl : (List.range (n + 1)).map nI = l) (h : ∀ z ∈ l, ¬ x = z) : x.toInt < 0 ∨ (n : Int) < x.toInt := by
  rcases Decidable.em (x.toInt < 0) with h1 | h1
  · exact Or.inl h1
  · refine Or.inr (Int.not_le.mp fun h2 => ?_)
    have e : x = nI x.toInt.toNat := Int32.toInt_inj.mp (by rw [nI_toInt (by omega)]; omega)
    refine h x ?_ rfl
    rw [← hl, List.mem_map]
    exact ⟨x.toInt.toNat, List.mem_range.mpr (by omega), e.symm⟩
theorem q_alen {k t0 n : Nat} {ty : FieldType} {v : Int32} {x : (Nat → Int32) ⊕ (Nat → Int64) ⊕ (Nat → UInt32) ⊕ (Nat → UInt64) ⊕ (Nat → Option Nat)} (C : QC G X cc nL own fr lo ret) (hk : k < 59) (he : cE (gad G) (gca G) k (S k) = .inl (gca G k, n, x)) (ht : (TYS (gca G))[t0]? = some (gca G k, ty)) (hv : Int32.ofNat n = v) (d : decode cc pc = .ok (.arraylength, 1)) (kk : QW G X nL Q (pc + 1) lv (.int v :: st) S) : QW G X nL Q pc lv (.ref (gad G k) :: st) S := by
  intro H locs ls hP hS hl
  obtain ⟨hx, hb, -, hts, hown, hK, -⟩ := C
  exact va_alen hx hb hK hP k t0 (by rw [wl_at hk, he]) ht hv d (kk H locs ls hP hS hl)
theorem q_aald {i : Int32} {k n : Nat} (C : QC G X cc nL own fr lo ret) (hi : i = nI n) (hn : n < 4) (hkn : stF (gad G) n = some (gad G k)) (d : decode cc pc = .ok (.aaload, 1)) (kk : QW G X nL Q (pc + 1) lv (.ref (gad G k) :: st) S) : QW G X nL Q pc lv (.int i :: .ref (gad G 58) :: st) S := by
  intro H locs ls hP hS hl
  obtain ⟨hx, hb, -, hts, hown, hK, -⟩ := C
  subst hi
  refine va_aldq hx hb hK hP 58 41 (by rw [wl_at (by decide), ce_58]) (ty_58 _) (vp_in_nI hn (by decide)) d ?_
  rw [nI_clamp (by omega), hkn]
  exact kk H locs ls hP hS hl
theorem q_max {index : Nat} {x y : Int32} (C : QC G X cc nL own fr lo ret) (hlink : Cond.methodLink own index Lib.Math.max.name ∈ wsL_law0) (hstat : Cond.static Lib.Math.max.name ∈ wsL_law0) (hini : Cond.initialized "java/lang/Math" ∈ wsL_law0) (hcode : Cond.code Lib.Math.max.name Lib.Math.max.code 2 (some .int) ∈ wsL_law0) (hfr : 1 ≤ fr) (hlo : (st.map fun v => v.category).sum + 13 ≤ lo) (d : decode cc pc = .ok (.invokestatic index, 3)) (kk : QW G X nL Q (pc + 3) lv (.int (if x < y then y else x) :: st) S) : QW G X nL Q pc lv (.int y :: .int x :: st) S := by
  intro H locs ls hP hS hl
  obtain ⟨hx, hb, hml, hts, hown, hK, -, -, -, -, -, -, hR⟩ := C
  exact va_mmax hx hb (hml.trans hl.1.symm) hown (hts _ hlink) (hts _ hstat) (hts _ hini) (hts _ hcode) (by rw [hR]; exact hfr) (by rw [hR]; exact hlo) (Nat.zero_le _) (Nat.zero_le _) d (kk H locs ls hP hS hl)
theorem q_on {v : Option Value} {S' : St} {rest : List Value} {H : Heap} {locs : List Loc} {ls : Array Slot} (C : QC G X cc nL own fr lo ret) (hS : va_S (xA X) (xs X).heap H locs) (hl : lv_has ls nL lv)
    (hr : va_Run (xp X) (gl G) (xe X) (xR X) (xs X) (xm X) (xargs X) (xbelow X) (xmeth X) (xc X) H locs 0 0 0 0 (F0 (xm X) pc ls st) rest (fun st oc t => (oc = .returned v ∧ qB G S' t) ∧ va_F (fA (gad G) H.size) st t) (fA (gad G) H.size))
    (kk : QW G X nL Q (pc + 3) lv (v.toList ++ rest) S') : W (xp X) (gl G) (xe X) (xR X) (xs X) (xm X) (xargs X) (xbelow X) (xmeth X) (xc X) H locs 0 0 Q (F0 (xm X) pc ls st) := by
  obtain ⟨hx, hb, hml, hts, hown, hK, -, -, hA, hA2, -⟩ := C
  have hf : ∀ q, fA (gad G) H.size q → xA X q := by
    intro q hq
    rcases hq with ⟨k, hk, rfl⟩ | hq
    · exact hA2 k hk
    · exact hA q (Nat.le_trans hS.1 hq)
  intro T hT X9
  obtain ⟨v9, st₀, t, T', L, h0, X', hL, e1, e2, ⟨⟨hv, hP1, -, -⟩, hz, hk⟩, stp⟩ := hr T hT X9
  cases hv
  rw [h0] at hz hk
  obtain ⟨t2, a1, b1⟩ := kk T'.heap (locs ++ L) ls (by rw [e1]; exact hP1)
    ⟨Nat.le_trans hS.1 (by rw [e1]; exact hz), fun q h1 h2 => by rw [e1, hk q (Nat.lt_of_lt_of_le h1 hS.1) (fun z => h2 (hf q z))]; exact hS.2.1 q h1 h2, fun q hq => by
      rcases List.mem_append.mp hq with h | h
      · exact hS.2.2 q h
      · exact hf _ (hL q h)⟩ hl T' rfl X'
  exact ⟨t2, stp t2 a1, b1⟩
theorem q_blind {av : List Value} {sz : Nat} {S : St} : FrameBlind (va_Pc av (fun U => U.heap.size = sz ∧ qB G S U)) := fun a U g mk q => by
  obtain ⟨q0, q1, qP, qK, qN⟩ := q
  exact ⟨q0, q1, qP, va_K.moved (u := U) (U := U.calling g mk a) (Vm.Alike.refl U.vm) qK, fun x hx => va_Nw.same rfl (u := U) (U := U.calling g mk a) rfl (qN x hx)⟩
theorem q_good {ws ws' : List Cond} {y : MethodName} {cy : ByteArray} {ny : Nat} {ry : Option FieldType} (hc : Cond.code y cy ny ry ∈ wsL_law0) (h : ∀ w ∈ ws, w ∈ wsL_law0) (hw : ws' = ws ++ (Cond.code y cy ny ry :: wsL_law0)) : GoodIn wsL_law0 ws' := by
  intro w hw9
  have hm : w ∈ wsL_law0 := by
    rw [hw] at hw9
    rcases List.mem_append.mp hw9 with q | q
    · exact h w q
    · rcases List.mem_cons.mp q with q | q
      · rw [q]; exact hc
      · exact q
  exact ⟨hm, good_of_word (tb_good w hm)⟩
section QCall
variable {k ci index n ny fy loy nA : Nat} {fs As rest : List Value} {x y : MethodName} {cy : ByteArray} {ry : Option FieldType} {v : Option Value} {S' : St} {owner Cn : String} {T : u_T} {N : Nat}
/-- a call of the receiver's own method -/
theorem q_callV (C : QC G X cc nL own fr lo ret) (hM : QMet G y cy ny ry fy loy (.ref (gad G k) :: As) S v S') (hk : k < 59) (he : cE (gad G) (gca G) k (S k) = .inr (ci, fs)) (hc : vwCl[ci]? = some (Cn, T, N))
    (w1 : Cond.methodLink own index y ∈ wsL_law0) (w2 : Cond.instanceMethod y ∈ wsL_law0) (w3 : Cond.selects Cn y y ∈ wsL_law0) (w4 : Cond.initialized Cn ∈ wsL_law0) (w5 : Cond.code y cy ny ry ∈ wsL_law0)
    (hd : y.cls = Cn ∧ y.cls ≠ "java/lang/invoke/MethodHandle" ∧ y.cls ≠ "java/lang/invoke/VarHandle" ∧ (parseMethodDescriptor y.desc).map (fun d => d.parameters.length) = some nA) (hA9 : As.length = nA) (hR : fy + 1 ≤ fr ∧ 8 + (ny + 11) + loy ≤ lo) (hW : (rest.map fun v => v.category).sum ≤ 8) (hst : As.reverse ++ .ref (gad G k) :: rest = st) (d : decode cc pc = .ok (.invokevirtual index, 3))
    (kk : QW G X nL Q (pc + 3) lv (v.toList ++ rest) S') : QW G X nL Q pc lv st S := by
  intro H locs ls hP hS hl
  have C0 := C
  subst hA9
  obtain ⟨hx, hb, hml, hts, hown, hK, hN, hi, -, -, -, -, hRm⟩ := C
  have hG : GoodIn wsL_law0 (wsV own index Cn y (.code y cy ny ry :: wsL_law0)) := q_good w5 (by
    intro w hw
    rcases List.mem_cons.mp hw with q | hw; · rw [q]; exact w1
    rcases List.mem_cons.mp hw with q | hw; · rw [q]; exact w2
    rcases List.mem_cons.mp hw with q | hw; · rw [q]; exact w3
    rcases List.mem_cons.mp hw with q | hw; · rw [q]; exact w4
    cases hw) rfl
  refine q_on C0 hS hl (va_runV (As := As) (rest := rest) ⟨hx, hb, hml, hown, hts⟩ (hM H.size) (cwV As.length hts hG rfl rfl rfl hd (by rw [hRm]; exact hR)) ⟨q_blind, va_recv hK hP (ci := ci) (q0 := k) hc (by rw [wl_at hk, he]), fun U hU hW9 => ⟨rfl, by rw [hU], by rw [hU]; exact hP, va_K.moved hW9.alike hK, q_Nw hW9 hN⟩⟩ rfl rfl hl.1 hst.symm (lv_room hW) d ⟨Nat.zero_le _, Nat.zero_le _⟩) kk
/-- a call by the name of a class above, or of an abstract method -/
theorem q_callU (C : QC G X cc nL own fr lo ret) (hM : QMet G y cy ny ry fy loy (.ref (gad G k) :: As) S v S') (hk : k < 59) (he : cE (gad G) (gca G) k (S k) = .inr (ci, fs)) (hc : vwCl[ci]? = some (Cn, T, N))
    (hz : y = ⟨owner, x.name, x.desc⟩ ∨ ⟨owner, x.name, x.desc⟩ ∈ NWs ∨ ∃ b0 m0 r0, Cond.instanceMethod ⟨owner, x.name, x.desc⟩ ∈ wsL_law0 ∧ Cond.code ⟨owner, x.name, x.desc⟩ b0 m0 r0 ∈ wsL_law0)
    (w1 : Cond.methodLink own index x ∈ wsL_law0) (w6 : Cond.sameMethod x.cls owner x.name x.desc ∈ wsL_law0) (w2 : Cond.instanceMethod y ∈ wsL_law0) (w3 : Cond.selects Cn x y ∈ wsL_law0) (w4 : Cond.initialized y.cls ∈ wsL_law0) (w5 : Cond.code y cy ny ry ∈ wsL_law0)
    (hd : owner ≠ "java/lang/invoke/MethodHandle" ∧ owner ≠ "java/lang/invoke/VarHandle" ∧ (parseMethodDescriptor x.desc).map (fun d => d.parameters.length) = some nA) (hA9 : As.length = nA) (hR : fy + 1 ≤ fr ∧ 8 + (ny + 11) + loy ≤ lo) (hW : (rest.map fun v => v.category).sum ≤ 8) (hst : As.reverse ++ .ref (gad G k) :: rest = st) (d : decode cc pc = .ok (.invokevirtual index, 3))
    (kk : QW G X nL Q (pc + 3) lv (v.toList ++ rest) S') : QW G X nL Q pc lv st S := by
  intro H locs ls hP hS hl
  have C0 := C
  subst hA9
  obtain ⟨hx, hb, hml, hts, hown, hK, hN, hi, -, -, -, -, hRm⟩ := C
  have hG : GoodIn wsL_law0 (va_wsU own index Cn owner x y (.code y cy ny ry :: wsL_law0)) := q_good w5 (by
    intro w hw
    rcases List.mem_cons.mp hw with q | hw; · rw [q]; exact w1
    rcases List.mem_cons.mp hw with q | hw; · rw [q]; exact w6
    rcases List.mem_cons.mp hw with q | hw; · rw [q]; exact w3
    rcases List.mem_cons.mp hw with q | hw; · rw [q]; exact w2
    rcases List.mem_cons.mp hw with q | hw; · rw [q]; exact w4
    cases hw) rfl
  have cw : va_CU (xR X) (xs X) (xargs X) own Cn owner index x y cy ny ry (.code y cy ny ry :: wsL_law0) { frames := fy, cells := 0, slots := 0, locals := loy } 0 0 As.length := by
    rcases hz with h | h | ⟨b0, m0, r0, h1, h2⟩
    · exact va_cwU As.length hts hG rfl rfl rfl h hd (by rw [hRm]; exact hR)
    · exact va_cwA As.length hts hG rfl rfl rfl (hN _ h) hd (by rw [hRm]; exact hR)
    · have hG2 : GoodIn wsL_law0 (va_wsO own index Cn owner x y (.code y cy ny ry :: wsL_law0)) := q_good w5 (by
        intro w hw
        rcases List.mem_cons.mp hw with q | hw; · rw [q]; exact w1
        rcases List.mem_cons.mp hw with q | hw; · rw [q]; exact w6
        rcases List.mem_cons.mp hw with q | hw; · rw [q]; exact h1
        rcases List.mem_cons.mp hw with q | hw; · rw [q]; exact w3
        rcases List.mem_cons.mp hw with q | hw; · rw [q]; exact w2
        rcases List.mem_cons.mp hw with q | hw; · rw [q]; exact w4
        cases hw) rfl
      exact va_cwO As.length hts hG2 rfl rfl rfl h2 hd (by rw [hRm]; exact hR)
  refine q_on C0 hS hl (va_runU (As := As) (rest := rest) ⟨hx, hb, hml, hown, hts⟩ (hM H.size) cw ⟨q_blind, va_recv hK hP (ci := ci) (q0 := k) hc (by rw [wl_at hk, he]), fun U hU hW9 => ⟨rfl, by rw [hU], by rw [hU]; exact hP, va_K.moved hW9.alike hK, q_Nw hW9 hN⟩⟩ rfl rfl hl.1 hst.symm (lv_room hW) d ⟨Nat.zero_le _, Nat.zero_le _⟩) kk
/-- a static call -/
theorem q_callS (C : QC G X cc nL own fr lo ret) (hM : QMet G y cy ny ry fy loy As S v S')
    (w1 : Cond.methodLink own index y ∈ wsL_law0) (w2 : Cond.static y ∈ wsL_law0) (w4 : Cond.initialized y.cls ∈ wsL_law0) (w5 : Cond.code y cy ny ry ∈ wsL_law0)
    (hd : y.cls ≠ "java/lang/invoke/MethodHandle" ∧ y.cls ≠ "java/lang/invoke/VarHandle" ∧ (parseMethodDescriptor y.desc).map (fun d => d.parameters.length) = some nA) (hA9 : As.length = nA) (hR : fy + 1 ≤ fr ∧ 8 + (ny + 11) + loy ≤ lo) (hW : (rest.map fun v => v.category).sum ≤ 8) (hst : As.reverse ++ rest = st) (d : decode cc pc = .ok (.invokestatic index, 3))
    (kk : QW G X nL Q (pc + 3) lv (v.toList ++ rest) S') : QW G X nL Q pc lv st S := by
  intro H locs ls hP hS hl
  have C0 := C
  subst hA9
  obtain ⟨hx, hb, hml, hts, hown, hK, hN, hi, -, -, -, -, hRm⟩ := C
  have hG : GoodIn wsL_law0 (va_wsS own index y (.code y cy ny ry :: wsL_law0)) := q_good w5 (by
    intro w hw
    rcases List.mem_cons.mp hw with q | hw; · rw [q]; exact w1
    rcases List.mem_cons.mp hw with q | hw; · rw [q]; exact w2
    rcases List.mem_cons.mp hw with q | hw; · rw [q]; exact w4
    cases hw) rfl
  refine q_on C0 hS hl (va_runS (As := As) (rest := rest) ⟨hx, hb, hml, hown, hts⟩ (hM H.size) (va_cwS As.length hts hG rfl rfl rfl hd (by rw [hRm]; exact hR)) ⟨q_blind, fun U hU hW9 => ⟨rfl, by rw [hU], by rw [hU]; exact hP, va_K.moved hW9.alike hK, q_Nw hW9 hN⟩⟩ rfl rfl hl.1 hst.symm (lv_room hW) d ⟨Nat.zero_le _, Nat.zero_le _⟩) kk
end QCall
end QL
/-! results of the decompiled functions, one behind the other -/
def ob {α β γ : Type} (x : Option (α × β)) (f : α → β → Option γ) : Option γ := match x with
  | none => none
  | some (a, b) => f a b
theorem ob_some {α β γ : Type} {x : Option (α × β)} {f : α → β → Option γ} {r : γ} (h : ob x f = some r) : ∃ a b, x = some (a, b) ∧ f a b = some r := by
  cases x with
  | none => cases h
  | some q => exact ⟨q.1, q.2, rfl, h⟩
def o1 {α γ : Type} (x : Option α) (f : α → Option γ) : Option γ := match x with
  | none => none
  | some a => f a
theorem o1_some {α γ : Type} {x : Option α} {f : α → Option γ} {r : γ} (h : o1 x f = some r) : ∃ a, x = some a ∧ f a = some r := by
  cases x with
  | none => cases h
  | some q => exact ⟨q, rfl, h⟩
def oc {α β γ δ : Type} (x : Option (α × β × δ)) (f : α → β → δ → Option γ) : Option γ := match x with
  | none => none
  | some (a, b, d) => f a b d
theorem oc_some {α β γ δ : Type} {x : Option (α × β × δ)} {f : α → β → δ → Option γ} {r : γ} (h : oc x f = some r) : ∃ a b d, x = some (a, b, d) ∧ f a b d = some r := by
  cases x with
  | none => cases h
  | some q => exact ⟨q.1, q.2.1, q.2.2, rfl, h⟩
theorem hm_t {c : Prop} [Decidable c] {α : Type} {a b x : Option α} (hc : c) (h : (if c then a else b) = x) : a = x := by rwa [if_pos hc] at h
theorem hm_f {c : Prop} [Decidable c] {α : Type} {a b x : Option α} (hc : ¬ c) (h : (if c then a else b) = x) : b = x := by rwa [if_neg hc] at h

