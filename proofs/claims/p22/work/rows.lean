section
-- ===== PART A: goes FIRST, ahead of the names: the tables' words, and 'selects' of the private methods out of them =====
/-- a private method of a class that the tables say can be made, by its rows of tables_1 -/
def lw_okq (q : MethodName × Nat) : Prop := (q.1.cls ≠ "java/lang/invoke/MethodHandle" ∧ q.1.cls ≠ "java/lang/invoke/VarHandle") ∧ Cond.instantiable q.1.cls q.2 ∈ tables_1 ∧ Cond.privateMethod q.1 ∈ tables_1 ∧ Cond.instanceMethod q.1 ∈ tables_1
theorem lw_p0 : lw_okq (⟨"java/lang/Throwable", "fillInStackTrace", "(I)Ljava/lang/Throwable;"⟩, 6) := ⟨⟨by decide +kernel, by decide +kernel⟩, List.mem_of_getElem? (i := 362) (by decide +kernel), List.mem_of_getElem? (i := 360) (by decide +kernel), List.mem_of_getElem? (i := 361) (by decide +kernel)⟩
theorem lw_p1 : lw_okq (⟨"Tessera", "openPauses", "()V"⟩, 6) := ⟨⟨by decide +kernel, by decide +kernel⟩, List.mem_of_getElem? (i := 19) (by decide +kernel), List.mem_of_getElem? (i := 488) (by decide +kernel), List.mem_of_getElem? (i := 489) (by decide +kernel)⟩
theorem lw_p2 : lw_okq (⟨"Tessera$Copying", "putBehind", "(I)V"⟩, 12) := ⟨⟨by decide +kernel, by decide +kernel⟩, List.mem_of_getElem? (i := 274) (by decide +kernel), List.mem_of_getElem? (i := 565) (by decide +kernel), List.mem_of_getElem? (i := 566) (by decide +kernel)⟩
theorem lw_p3 : lw_okq (⟨"Tessera$Counting", "findRings", "()V"⟩, 17) := ⟨⟨by decide +kernel, by decide +kernel⟩, List.mem_of_getElem? (i := 231) (by decide +kernel), List.mem_of_getElem? (i := 619) (by decide +kernel), List.mem_of_getElem? (i := 620) (by decide +kernel)⟩
theorem lw_p4 : lw_okq (⟨"Tessera$Counting", "countNamedInside", "()V"⟩, 17) := ⟨⟨by decide +kernel, by decide +kernel⟩, List.mem_of_getElem? (i := 231) (by decide +kernel), List.mem_of_getElem? (i := 634) (by decide +kernel), List.mem_of_getElem? (i := 635) (by decide +kernel)⟩
theorem lw_p5 : lw_okq (⟨"Tessera$Counting", "findLeftOut", "()V"⟩, 17) := ⟨⟨by decide +kernel, by decide +kernel⟩, List.mem_of_getElem? (i := 231) (by decide +kernel), List.mem_of_getElem? (i := 642) (by decide +kernel), List.mem_of_getElem? (i := 643) (by decide +kernel)⟩
theorem lw_p6 : lw_okq (⟨"Tessera$Counting", "letRingGo", "(I)V"⟩, 17) := ⟨⟨by decide +kernel, by decide +kernel⟩, List.mem_of_getElem? (i := 231) (by decide +kernel), List.mem_of_getElem? (i := 650) (by decide +kernel), List.mem_of_getElem? (i := 651) (by decide +kernel)⟩
theorem lw_p7 : lw_okq (⟨"Tessera$Marking", "workAheadOfPlacing", "()V"⟩, 15) := ⟨⟨by decide +kernel, by decide +kernel⟩, List.mem_of_getElem? (i := 191) (by decide +kernel), List.mem_of_getElem? (i := 669) (by decide +kernel), List.mem_of_getElem? (i := 670) (by decide +kernel)⟩
theorem lw_p8 : lw_okq (⟨"Tessera$Marking", "beginToMark", "()V"⟩, 15) := ⟨⟨by decide +kernel, by decide +kernel⟩, List.mem_of_getElem? (i := 191) (by decide +kernel), List.mem_of_getElem? (i := 680) (by decide +kernel), List.mem_of_getElem? (i := 681) (by decide +kernel)⟩
theorem lw_p9 : lw_okq (⟨"Tessera$Marking", "becomeGrey", "(I)V"⟩, 15) := ⟨⟨by decide +kernel, by decide +kernel⟩, List.mem_of_getElem? (i := 191) (by decide +kernel), List.mem_of_getElem? (i := 688) (by decide +kernel), List.mem_of_getElem? (i := 689) (by decide +kernel)⟩
theorem lw_p10 : lw_okq (⟨"Tessera$Marking", "paint", "(II)V"⟩, 15) := ⟨⟨by decide +kernel, by decide +kernel⟩, List.mem_of_getElem? (i := 191) (by decide +kernel), List.mem_of_getElem? (i := 700) (by decide +kernel), List.mem_of_getElem? (i := 701) (by decide +kernel)⟩
theorem lw_p11 : lw_okq (⟨"Tessera$Marking", "step", "()V"⟩, 15) := ⟨⟨by decide +kernel, by decide +kernel⟩, List.mem_of_getElem? (i := 191) (by decide +kernel), List.mem_of_getElem? (i := 705) (by decide +kernel), List.mem_of_getElem? (i := 706) (by decide +kernel)⟩
theorem lw_p12 : lw_okq (⟨"Tessera$Marking", "sweep", "()V"⟩, 15) := ⟨⟨by decide +kernel, by decide +kernel⟩, List.mem_of_getElem? (i := 191) (by decide +kernel), List.mem_of_getElem? (i := 709) (by decide +kernel), List.mem_of_getElem? (i := 710) (by decide +kernel)⟩
theorem lw_p13 : lw_okq (⟨"Tessera$Nursery", "wordsGrown", "()I"⟩, 17) := ⟨⟨by decide +kernel, by decide +kernel⟩, List.mem_of_getElem? (i := 84) (by decide +kernel), List.mem_of_getElem? (i := 748) (by decide +kernel), List.mem_of_getElem? (i := 749) (by decide +kernel)⟩
theorem lw_p14 : lw_okq (⟨"Tessera$Nursery", "isGrown", "(I)Z"⟩, 17) := ⟨⟨by decide +kernel, by decide +kernel⟩, List.mem_of_getElem? (i := 84) (by decide +kernel), List.mem_of_getElem? (i := 753) (by decide +kernel), List.mem_of_getElem? (i := 754) (by decide +kernel)⟩
theorem lw_p15 : lw_okq (⟨"Tessera$Nursery", "greatFits", "()Z"⟩, 17) := ⟨⟨by decide +kernel, by decide +kernel⟩, List.mem_of_getElem? (i := 84) (by decide +kernel), List.mem_of_getElem? (i := 762) (by decide +kernel), List.mem_of_getElem? (i := 763) (by decide +kernel)⟩
def lw_privs_1 : List (MethodName × Nat) := [(⟨"java/lang/Throwable", "fillInStackTrace", "(I)Ljava/lang/Throwable;"⟩, 6), (⟨"Tessera", "openPauses", "()V"⟩, 6), (⟨"Tessera$Copying", "putBehind", "(I)V"⟩, 12), (⟨"Tessera$Counting", "findRings", "()V"⟩, 17), (⟨"Tessera$Counting", "countNamedInside", "()V"⟩, 17), (⟨"Tessera$Counting", "findLeftOut", "()V"⟩, 17), (⟨"Tessera$Counting", "letRingGo", "(I)V"⟩, 17), (⟨"Tessera$Marking", "workAheadOfPlacing", "()V"⟩, 15), (⟨"Tessera$Marking", "beginToMark", "()V"⟩, 15), (⟨"Tessera$Marking", "becomeGrey", "(I)V"⟩, 15), (⟨"Tessera$Marking", "paint", "(II)V"⟩, 15), (⟨"Tessera$Marking", "step", "()V"⟩, 15), (⟨"Tessera$Marking", "sweep", "()V"⟩, 15), (⟨"Tessera$Nursery", "wordsGrown", "()I"⟩, 17), (⟨"Tessera$Nursery", "isGrown", "(I)Z"⟩, 17), (⟨"Tessera$Nursery", "greatFits", "()Z"⟩, 17)]
theorem lw_r1 : ∀ q ∈ lw_privs_1, lw_okq q := List.forall_mem_cons.mpr ⟨lw_p0, List.forall_mem_cons.mpr ⟨lw_p1, List.forall_mem_cons.mpr ⟨lw_p2, List.forall_mem_cons.mpr ⟨lw_p3, List.forall_mem_cons.mpr ⟨lw_p4, List.forall_mem_cons.mpr ⟨lw_p5, List.forall_mem_cons.mpr ⟨lw_p6, List.forall_mem_cons.mpr ⟨lw_p7, List.forall_mem_cons.mpr ⟨lw_p8, List.forall_mem_cons.mpr ⟨lw_p9, List.forall_mem_cons.mpr ⟨lw_p10, List.forall_mem_cons.mpr ⟨lw_p11, List.forall_mem_cons.mpr ⟨lw_p12, List.forall_mem_cons.mpr ⟨lw_p13, List.forall_mem_cons.mpr ⟨lw_p14, List.forall_mem_cons.mpr ⟨lw_p15, fun _ h => absurd h List.not_mem_nil⟩⟩⟩⟩⟩⟩⟩⟩⟩⟩⟩⟩⟩⟩⟩⟩
theorem lw_p16 : lw_okq (⟨"Tessera$Nursery", "findReached", "()V"⟩, 17) := ⟨⟨by decide +kernel, by decide +kernel⟩, List.mem_of_getElem? (i := 84) (by decide +kernel), List.mem_of_getElem? (i := 782) (by decide +kernel), List.mem_of_getElem? (i := 783) (by decide +kernel)⟩
theorem lw_p17 : lw_okq (⟨"Tessera$Nursery", "addReached", "(LTessera$Row;)V"⟩, 17) := ⟨⟨by decide +kernel, by decide +kernel⟩, List.mem_of_getElem? (i := 84) (by decide +kernel), List.mem_of_getElem? (i := 786) (by decide +kernel), List.mem_of_getElem? (i := 787) (by decide +kernel)⟩
theorem lw_p18 : lw_okq (⟨"Tessera$Nursery", "putOld", "(I)V"⟩, 17) := ⟨⟨by decide +kernel, by decide +kernel⟩, List.mem_of_getElem? (i := 84) (by decide +kernel), List.mem_of_getElem? (i := 796) (by decide +kernel), List.mem_of_getElem? (i := 797) (by decide +kernel)⟩
theorem lw_p19 : lw_okq (⟨"Tessera$Nursery", "findYoung", "()V"⟩, 17) := ⟨⟨by decide +kernel, by decide +kernel⟩, List.mem_of_getElem? (i := 84) (by decide +kernel), List.mem_of_getElem? (i := 803) (by decide +kernel), List.mem_of_getElem? (i := 804) (by decide +kernel)⟩
theorem lw_p20 : lw_okq (⟨"Tessera$Nursery", "addYoung", "(I)V"⟩, 17) := ⟨⟨by decide +kernel, by decide +kernel⟩, List.mem_of_getElem? (i := 84) (by decide +kernel), List.mem_of_getElem? (i := 808) (by decide +kernel), List.mem_of_getElem? (i := 809) (by decide +kernel)⟩
theorem lw_p21 : lw_okq (⟨"Tessera$Nursery", "addYoungNamedBy", "(I)V"⟩, 17) := ⟨⟨by decide +kernel, by decide +kernel⟩, List.mem_of_getElem? (i := 84) (by decide +kernel), List.mem_of_getElem? (i := 813) (by decide +kernel), List.mem_of_getElem? (i := 814) (by decide +kernel)⟩
theorem lw_p22 : lw_okq (⟨"Tessera$Nursery", "moveFound", "(I)V"⟩, 17) := ⟨⟨by decide +kernel, by decide +kernel⟩, List.mem_of_getElem? (i := 84) (by decide +kernel), List.mem_of_getElem? (i := 822) (by decide +kernel), List.mem_of_getElem? (i := 823) (by decide +kernel)⟩
theorem lw_p23 : lw_okq (⟨"Tessera$Nursery", "putYoung", "(IZ)V"⟩, 17) := ⟨⟨by decide +kernel, by decide +kernel⟩, List.mem_of_getElem? (i := 84) (by decide +kernel), List.mem_of_getElem? (i := 826) (by decide +kernel), List.mem_of_getElem? (i := 827) (by decide +kernel)⟩
theorem lw_p24 : lw_okq (⟨"Tessera", "nameByRoot", "(II)I"⟩, 6) := ⟨⟨by decide +kernel, by decide +kernel⟩, List.mem_of_getElem? (i := 19) (by decide +kernel), List.mem_of_getElem? (i := 830) (by decide +kernel), List.mem_of_getElem? (i := 831) (by decide +kernel)⟩
theorem lw_p25 : lw_okq (⟨"Tessera$Graph", "measure", "()V"⟩, 7) := ⟨⟨by decide +kernel, by decide +kernel⟩, List.mem_of_getElem? (i := 27) (by decide +kernel), List.mem_of_getElem? (i := 839) (by decide +kernel), List.mem_of_getElem? (i := 840) (by decide +kernel)⟩
theorem lw_p26 : lw_okq (⟨"Tessera$Graph", "measureNamedBy", "(I)V"⟩, 7) := ⟨⟨by decide +kernel, by decide +kernel⟩, List.mem_of_getElem? (i := 27) (by decide +kernel), List.mem_of_getElem? (i := 845) (by decide +kernel), List.mem_of_getElem? (i := 846) (by decide +kernel)⟩
theorem lw_p27 : lw_okq (⟨"Tessera", "tellStores", "(III)V"⟩, 6) := ⟨⟨by decide +kernel, by decide +kernel⟩, List.mem_of_getElem? (i := 19) (by decide +kernel), List.mem_of_getElem? (i := 853) (by decide +kernel), List.mem_of_getElem? (i := 854) (by decide +kernel)⟩
theorem lw_p28 : lw_okq (⟨"Tessera$Counting", "lower", "(I)V"⟩, 17) := ⟨⟨by decide +kernel, by decide +kernel⟩, List.mem_of_getElem? (i := 231) (by decide +kernel), List.mem_of_getElem? (i := 864) (by decide +kernel), List.mem_of_getElem? (i := 865) (by decide +kernel)⟩
theorem lw_p29 : lw_okq (⟨"Tessera$Counting", "lowerOnce", "(I)V"⟩, 17) := ⟨⟨by decide +kernel, by decide +kernel⟩, List.mem_of_getElem? (i := 231) (by decide +kernel), List.mem_of_getElem? (i := 868) (by decide +kernel), List.mem_of_getElem? (i := 869) (by decide +kernel)⟩
theorem lw_p30 : lw_okq (⟨"Tessera", "closePauses", "()V"⟩, 6) := ⟨⟨by decide +kernel, by decide +kernel⟩, List.mem_of_getElem? (i := 19) (by decide +kernel), List.mem_of_getElem? (i := 877) (by decide +kernel), List.mem_of_getElem? (i := 878) (by decide +kernel)⟩
theorem lw_p31 : lw_okq (⟨"Tessera", "checkNameable", "(I)V"⟩, 6) := ⟨⟨by decide +kernel, by decide +kernel⟩, List.mem_of_getElem? (i := 19) (by decide +kernel), List.mem_of_getElem? (i := 902) (by decide +kernel), List.mem_of_getElem? (i := 903) (by decide +kernel)⟩
def lw_privs_2 : List (MethodName × Nat) := [(⟨"Tessera$Nursery", "findReached", "()V"⟩, 17), (⟨"Tessera$Nursery", "addReached", "(LTessera$Row;)V"⟩, 17), (⟨"Tessera$Nursery", "putOld", "(I)V"⟩, 17), (⟨"Tessera$Nursery", "findYoung", "()V"⟩, 17), (⟨"Tessera$Nursery", "addYoung", "(I)V"⟩, 17), (⟨"Tessera$Nursery", "addYoungNamedBy", "(I)V"⟩, 17), (⟨"Tessera$Nursery", "moveFound", "(I)V"⟩, 17), (⟨"Tessera$Nursery", "putYoung", "(IZ)V"⟩, 17), (⟨"Tessera", "nameByRoot", "(II)I"⟩, 6), (⟨"Tessera$Graph", "measure", "()V"⟩, 7), (⟨"Tessera$Graph", "measureNamedBy", "(I)V"⟩, 7), (⟨"Tessera", "tellStores", "(III)V"⟩, 6), (⟨"Tessera$Counting", "lower", "(I)V"⟩, 17), (⟨"Tessera$Counting", "lowerOnce", "(I)V"⟩, 17), (⟨"Tessera", "closePauses", "()V"⟩, 6), (⟨"Tessera", "checkNameable", "(I)V"⟩, 6)]
theorem lw_r2 : ∀ q ∈ lw_privs_2, lw_okq q := List.forall_mem_cons.mpr ⟨lw_p16, List.forall_mem_cons.mpr ⟨lw_p17, List.forall_mem_cons.mpr ⟨lw_p18, List.forall_mem_cons.mpr ⟨lw_p19, List.forall_mem_cons.mpr ⟨lw_p20, List.forall_mem_cons.mpr ⟨lw_p21, List.forall_mem_cons.mpr ⟨lw_p22, List.forall_mem_cons.mpr ⟨lw_p23, List.forall_mem_cons.mpr ⟨lw_p24, List.forall_mem_cons.mpr ⟨lw_p25, List.forall_mem_cons.mpr ⟨lw_p26, List.forall_mem_cons.mpr ⟨lw_p27, List.forall_mem_cons.mpr ⟨lw_p28, List.forall_mem_cons.mpr ⟨lw_p29, List.forall_mem_cons.mpr ⟨lw_p30, List.forall_mem_cons.mpr ⟨lw_p31, fun _ h => absurd h List.not_mem_nil⟩⟩⟩⟩⟩⟩⟩⟩⟩⟩⟩⟩⟩⟩⟩⟩
theorem lw_p32 : lw_okq (⟨"Tessera", "checkThing", "(I)V"⟩, 6) := ⟨⟨by decide +kernel, by decide +kernel⟩, List.mem_of_getElem? (i := 19) (by decide +kernel), List.mem_of_getElem? (i := 925) (by decide +kernel), List.mem_of_getElem? (i := 926) (by decide +kernel)⟩
theorem lw_p33 : lw_okq (⟨"Tessera", "storeOf", "(I)LTessera$Store;"⟩, 6) := ⟨⟨by decide +kernel, by decide +kernel⟩, List.mem_of_getElem? (i := 19) (by decide +kernel), List.mem_of_getElem? (i := 949) (by decide +kernel), List.mem_of_getElem? (i := 950) (by decide +kernel)⟩
theorem lw_p34 : lw_okq (⟨"Tessera$Marking", "foresee", "()V"⟩, 15) := ⟨⟨by decide +kernel, by decide +kernel⟩, List.mem_of_getElem? (i := 191) (by decide +kernel), List.mem_of_getElem? (i := 1058) (by decide +kernel), List.mem_of_getElem? (i := 1059) (by decide +kernel)⟩
theorem lw_p35 : lw_okq (⟨"Tessera$Marking", "foreseeIfWhite", "(I)V"⟩, 15) := ⟨⟨by decide +kernel, by decide +kernel⟩, List.mem_of_getElem? (i := 191) (by decide +kernel), List.mem_of_getElem? (i := 1062) (by decide +kernel), List.mem_of_getElem? (i := 1063) (by decide +kernel)⟩
theorem lw_p36 : lw_okq (⟨"Tessera", "mixedThing", "(JI)J"⟩, 6) := ⟨⟨by decide +kernel, by decide +kernel⟩, List.mem_of_getElem? (i := 19) (by decide +kernel), List.mem_of_getElem? (i := 1104) (by decide +kernel), List.mem_of_getElem? (i := 1105) (by decide +kernel)⟩
def lw_privs_3 : List (MethodName × Nat) := [(⟨"Tessera", "checkThing", "(I)V"⟩, 6), (⟨"Tessera", "storeOf", "(I)LTessera$Store;"⟩, 6), (⟨"Tessera$Marking", "foresee", "()V"⟩, 15), (⟨"Tessera$Marking", "foreseeIfWhite", "(I)V"⟩, 15), (⟨"Tessera", "mixedThing", "(JI)J"⟩, 6)]
theorem lw_r3 : ∀ q ∈ lw_privs_3, lw_okq q := List.forall_mem_cons.mpr ⟨lw_p32, List.forall_mem_cons.mpr ⟨lw_p33, List.forall_mem_cons.mpr ⟨lw_p34, List.forall_mem_cons.mpr ⟨lw_p35, List.forall_mem_cons.mpr ⟨lw_p36, fun _ h => absurd h List.not_mem_nil⟩⟩⟩⟩⟩
def lw_privs : List (MethodName × Nat) := lw_privs_1 ++ (lw_privs_2 ++ (lw_privs_3))
def lw_tbl : List Cond := k2_sels lw_privs ++ tables_1
theorem lw_privs_ok : ∀ q ∈ lw_privs, lw_okq q := by
  show ∀ q ∈ lw_privs_1 ++ (lw_privs_2 ++ (lw_privs_3)), lw_okq q
  exact List.forall_mem_append.mpr ⟨lw_r1, List.forall_mem_append.mpr ⟨lw_r2, lw_r3⟩⟩
/-! ===== BEGIN words of one list among another's, by their places ===== -/
theorem goodIn_r {big : List Cond} (ws : List Cond) (ps : List Nat) (hp : ws = ps.filterMap (fun i => big[i]?)) (h : ws.all goodWord = true) : GoodIn big ws := by
  intro w hw
  have h1 := List.all_eq_true.mp h w hw
  rw [hp] at hw
  obtain ⟨i, -, hi⟩ := List.mem_filterMap.mp hw
  have hm : w ∈ big := by first | exact List.mem_of_getElem? hi | exact List.getElem?_mem hi
  exact ⟨hm, good_of_word h1⟩
theorem goodIn_app {big a b : List Cond} (ha : GoodIn big a) (hb : GoodIn big b) : GoodIn big (a ++ b) := fun w h => (List.mem_append.mp h).elim (ha w) (hb w)
theorem goodIn_ca {big a b : List Cond} {c : Cond} (ha : GoodIn big (c :: a)) (hb : GoodIn big b) : GoodIn big (c :: (a ++ b)) := fun w h => (List.mem_cons.mp h).elim (fun e => ha w (List.mem_cons.mpr (Or.inl e))) (fun h => (List.mem_append.mp h).elim (fun h => ha w (List.mem_cons.mpr (Or.inr h))) (hb w))
theorem goodIn_sub {big ws : List Cond} (hm : ∀ w ∈ ws, w ∈ big) (h : ws.all goodWord = true) : GoodIn big ws := fun w hw => ⟨hm w hw, good_of_word (List.all_eq_true.mp h w hw)⟩
/-! ===== END ===== -/
def RX0 : String := "Tessera$Copying"
def TX0 : u_T := fun k => match k with
  | 0 => ("Tessera$Store", "graph", "LTessera$Graph;", true)
  | 1 => ("Tessera$Store", "room", "I", false)
  | 2 => ("Tessera$Store", "work", "I", false)
  | 3 => ("Tessera$Store", "longestPause", "I", false)
  | 4 => ("Tessera$Store", "collectings", "I", false)
  | 5 => ("Tessera$Store", "broken", "Z", false)
  | 6 => ("Tessera$Store", "workAhead", "I", false)
  | 7 => ("Tessera$Store", "had", "[Z", true)
  | 8 => ("Tessera$Store", "places", "[I", true)
  | 9 => ("Tessera$Copying", "copied", "LTessera$Row;", true)
  | 10 => ("Tessera$Copying", "usesSecond", "Z", false)
  | _ => ("Tessera$Copying", "used", "I", false)
def tyX0 : Nat → FieldType := fun k => match k with
  | 0 => .object "Tessera$Graph"
  | 1 => .int
  | 2 => .int
  | 3 => .int
  | 4 => .int
  | 5 => .boolean
  | 6 => .int
  | 7 => .array .boolean
  | 8 => .array .int
  | 9 => .object "Tessera$Row"
  | 10 => .boolean
  | _ => .int
abbrev wsX00 : List Cond := u_ws RX0 TX0 12
theorem nmX0 : ∀ a, a < 12 → ∀ b, b < 12 → a ≠ b → (TX0 a).2.1 ≠ (TX0 b).2.1 := by decide +kernel
theorem tyX0_ok : ∀ k, k < 12 → parseFieldDescriptor (TX0 k).2.2.1 = some (tyX0 k) := by decide +kernel
abbrev cX0_init : ByteArray := prog_2_method_1_code
def yX0_init : MethodName := ⟨RX0, "<init>", "(LTessera$Graph;)V"⟩
abbrev cX0_forgetThings : ByteArray := prog_2_method_2_code
def yX0_forgetThings : MethodName := ⟨RX0, "forgetThings", "()V"⟩
abbrev cX0_placeNew : ByteArray := prog_2_method_3_code
def yX0_placeNew : MethodName := ⟨RX0, "placeNew", "(I)V"⟩
abbrev cX0_collectNow : ByteArray := prog_2_method_4_code
def yX0_collectNow : MethodName := ⟨RX0, "collectNow", "()I"⟩
abbrev cX0_countToGo : ByteArray := prog_2_method_5_code
def yX0_countToGo : MethodName := ⟨RX0, "countToGo", "()I"⟩
abbrev cX0_workToDo : ByteArray := prog_2_method_6_code
def yX0_workToDo : MethodName := ⟨RX0, "workToDo", "()I"⟩
abbrev cX0_freeTogether : ByteArray := prog_2_method_7_code
def yX0_freeTogether : MethodName := ⟨RX0, "freeTogether", "()I"⟩
abbrev cX0_putBehind : ByteArray := prog_2_method_8_code
def yX0_putBehind : MethodName := ⟨RX0, "putBehind", "(I)V"⟩
def RX1 : String := "Tessera$Counting"
def TX1 : u_T := fun k => match k with
  | 0 => ("Tessera$Scattered", "taken", "[Z", true)
  | 1 => ("Tessera$Store", "graph", "LTessera$Graph;", true)
  | 2 => ("Tessera$Store", "room", "I", false)
  | 3 => ("Tessera$Store", "work", "I", false)
  | 4 => ("Tessera$Store", "longestPause", "I", false)
  | 5 => ("Tessera$Store", "collectings", "I", false)
  | 6 => ("Tessera$Store", "broken", "Z", false)
  | 7 => ("Tessera$Store", "workAhead", "I", false)
  | 8 => ("Tessera$Store", "had", "[Z", true)
  | 9 => ("Tessera$Store", "places", "[I", true)
  | 10 => ("Tessera$Counting", "goneByRings", "I", false)
  | 11 => ("Tessera$Counting", "counts", "[I", true)
  | 12 => ("Tessera$Counting", "suspects", "[Z", true)
  | 13 => ("Tessera$Counting", "namedInside", "[I", true)
  | 14 => ("Tessera$Counting", "fallen", "LTessera$Row;", true)
  | 15 => ("Tessera$Counting", "suspected", "LTessera$Row;", true)
  | _ => ("Tessera$Counting", "leftOut", "LTessera$Row;", true)
def tyX1 : Nat → FieldType := fun k => match k with
  | 0 => .array .boolean
  | 1 => .object "Tessera$Graph"
  | 2 => .int
  | 3 => .int
  | 4 => .int
  | 5 => .int
  | 6 => .boolean
  | 7 => .int
  | 8 => .array .boolean
  | 9 => .array .int
  | 10 => .int
  | 11 => .array .int
  | 12 => .array .boolean
  | 13 => .array .int
  | 14 => .object "Tessera$Row"
  | 15 => .object "Tessera$Row"
  | _ => .object "Tessera$Row"
abbrev wsX10 : List Cond := u_ws RX1 TX1 17
theorem nmX1 : ∀ a, a < 17 → ∀ b, b < 17 → a ≠ b → (TX1 a).2.1 ≠ (TX1 b).2.1 := by decide +kernel
theorem tyX1_ok : ∀ k, k < 17 → parseFieldDescriptor (TX1 k).2.2.1 = some (tyX1 k) := by decide +kernel
abbrev cX1_init : ByteArray := prog_3_method_1_code
def yX1_init : MethodName := ⟨RX1, "<init>", "(LTessera$Graph;)V"⟩
abbrev cX1_forgetThings : ByteArray := prog_3_method_2_code
def yX1_forgetThings : MethodName := ⟨RX1, "forgetThings", "()V"⟩
abbrev cX1_resetCounters : ByteArray := prog_3_method_3_code
def yX1_resetCounters : MethodName := ⟨RX1, "resetCounters", "()V"⟩
abbrev cX1_placeNew : ByteArray := prog_3_method_4_code
def yX1_placeNew : MethodName := ⟨RX1, "placeNew", "(I)V"⟩
abbrev cX1_collectNow : ByteArray := prog_3_method_5_code
def yX1_collectNow : MethodName := ⟨RX1, "collectNow", "()I"⟩
abbrev cX1_learnNaming : ByteArray := prog_3_method_6_code
def yX1_learnNaming : MethodName := ⟨RX1, "learnNaming", "(III)V"⟩
abbrev cX1_countToGo : ByteArray := prog_3_method_7_code
def yX1_countToGo : MethodName := ⟨RX1, "countToGo", "()I"⟩
abbrev cX1_workToDo : ByteArray := prog_3_method_8_code
def yX1_workToDo : MethodName := ⟨RX1, "workToDo", "()I"⟩
abbrev cX1_countOf : ByteArray := prog_3_method_9_code
def yX1_countOf : MethodName := ⟨RX1, "countOf", "(I)I"⟩
abbrev cX1_isSuspect : ByteArray := prog_3_method_10_code
def yX1_isSuspect : MethodName := ⟨RX1, "isSuspect", "(I)Z"⟩
abbrev cX1_lower : ByteArray := prog_3_method_11_code
def yX1_lower : MethodName := ⟨RX1, "lower", "(I)V"⟩
abbrev cX1_lowerOnce : ByteArray := prog_3_method_12_code
def yX1_lowerOnce : MethodName := ⟨RX1, "lowerOnce", "(I)V"⟩
abbrev cX1_findRings : ByteArray := prog_3_method_13_code
def yX1_findRings : MethodName := ⟨RX1, "findRings", "()V"⟩
abbrev cX1_countNamedInside : ByteArray := prog_3_method_14_code
def yX1_countNamedInside : MethodName := ⟨RX1, "countNamedInside", "()V"⟩
abbrev cX1_findLeftOut : ByteArray := prog_3_method_15_code
def yX1_findLeftOut : MethodName := ⟨RX1, "findLeftOut", "()V"⟩
abbrev cX1_letRingGo : ByteArray := prog_3_method_16_code
def yX1_letRingGo : MethodName := ⟨RX1, "letRingGo", "(I)V"⟩
def RX2 : String := "Tessera$Graph"
def TX2 : u_T := fun k => match k with
  | 0 => ("Tessera$Graph", "fields", "[I", true)
  | 1 => ("Tessera$Graph", "names", "[I", true)
  | 2 => ("Tessera$Graph", "roots", "[I", true)
  | 3 => ("Tessera$Graph", "distances", "[I", true)
  | 4 => ("Tessera$Graph", "reached", "LTessera$Row;", true)
  | 5 => ("Tessera$Graph", "reachedOtherwise", "LTessera$Row;", true)
  | _ => ("Tessera$Graph", "count", "I", false)
def tyX2 : Nat → FieldType := fun k => match k with
  | 0 => .array .int
  | 1 => .array .int
  | 2 => .array .int
  | 3 => .array .int
  | 4 => .object "Tessera$Row"
  | 5 => .object "Tessera$Row"
  | _ => .int
abbrev wsX20 : List Cond := u_ws RX2 TX2 7
theorem nmX2 : ∀ a, a < 7 → ∀ b, b < 7 → a ≠ b → (TX2 a).2.1 ≠ (TX2 b).2.1 := by decide +kernel
theorem tyX2_ok : ∀ k, k < 7 → parseFieldDescriptor (TX2 k).2.2.1 = some (tyX2 k) := by decide +kernel
abbrev cX2_init : ByteArray := prog_4_method_1_code
def yX2_init : MethodName := ⟨RX2, "<init>", "()V"⟩
abbrev cX2_startAnew : ByteArray := prog_4_method_2_code
def yX2_startAnew : MethodName := ⟨RX2, "startAnew", "()V"⟩
abbrev cX2_addThing : ByteArray := prog_4_method_3_code
def yX2_addThing : MethodName := ⟨RX2, "addThing", "(I)I"⟩
abbrev cX2_isThing : ByteArray := prog_4_method_4_code
def yX2_isThing : MethodName := ⟨RX2, "isThing", "(I)Z"⟩
abbrev cX2_isReached : ByteArray := prog_4_method_5_code
def yX2_isReached : MethodName := ⟨RX2, "isReached", "(I)Z"⟩
abbrev cX2_hasField : ByteArray := prog_4_method_6_code
def yX2_hasField : MethodName := ⟨RX2, "hasField", "(II)Z"⟩
abbrev cX2_fieldsOf : ByteArray := prog_4_method_7_code
def yX2_fieldsOf : MethodName := ⟨RX2, "fieldsOf", "(I)I"⟩
abbrev cX2_wordsOf : ByteArray := prog_4_method_8_code
def yX2_wordsOf : MethodName := ⟨RX2, "wordsOf", "(I)I"⟩
abbrev cX2_distanceOf : ByteArray := prog_4_method_9_code
def yX2_distanceOf : MethodName := ⟨RX2, "distanceOf", "(I)I"⟩
abbrev cX2_nameOf : ByteArray := prog_4_method_10_code
def yX2_nameOf : MethodName := ⟨RX2, "nameOf", "(II)I"⟩
abbrev cX2_rootAt : ByteArray := prog_4_method_11_code
def yX2_rootAt : MethodName := ⟨RX2, "rootAt", "(I)I"⟩
abbrev cX2_nameByField : ByteArray := prog_4_method_12_code
def yX2_nameByField : MethodName := ⟨RX2, "nameByField", "(III)V"⟩
abbrev cX2_nameByRoot : ByteArray := prog_4_method_13_code
def yX2_nameByRoot : MethodName := ⟨RX2, "nameByRoot", "(II)V"⟩
abbrev cX2_trace : ByteArray := prog_4_method_14_code
def yX2_trace : MethodName := ⟨RX2, "trace", "(LTessera$Row;I)V"⟩
abbrev cX2_addNamedBy : ByteArray := prog_4_method_15_code
def yX2_addNamedBy : MethodName := ⟨RX2, "addNamedBy", "(ILTessera$Row;)V"⟩
abbrev cX2_countLostWithout : ByteArray := prog_4_method_16_code
def yX2_countLostWithout : MethodName := ⟨RX2, "countLostWithout", "(I)I"⟩
abbrev cX2_measure : ByteArray := prog_4_method_17_code
def yX2_measure : MethodName := ⟨RX2, "measure", "()V"⟩
abbrev cX2_measureNamedBy : ByteArray := prog_4_method_18_code
def yX2_measureNamedBy : MethodName := ⟨RX2, "measureNamedBy", "(I)V"⟩
def RX3 : String := "Tessera$Marking"
def TX3 : u_T := fun k => match k with
  | 0 => ("Tessera$Scattered", "taken", "[Z", true)
  | 1 => ("Tessera$Store", "graph", "LTessera$Graph;", true)
  | 2 => ("Tessera$Store", "room", "I", false)
  | 3 => ("Tessera$Store", "work", "I", false)
  | 4 => ("Tessera$Store", "longestPause", "I", false)
  | 5 => ("Tessera$Store", "collectings", "I", false)
  | 6 => ("Tessera$Store", "broken", "Z", false)
  | 7 => ("Tessera$Store", "workAhead", "I", false)
  | 8 => ("Tessera$Store", "had", "[Z", true)
  | 9 => ("Tessera$Store", "places", "[I", true)
  | 10 => ("Tessera$Marking", "marks", "Z", false)
  | 11 => ("Tessera$Marking", "colours", "[I", true)
  | 12 => ("Tessera$Marking", "greys", "LTessera$Row;", true)
  | 13 => ("Tessera$Marking", "foreseen", "LTessera$Row;", true)
  | _ => ("Tessera$Marking", "firstGrey", "I", false)
def tyX3 : Nat → FieldType := fun k => match k with
  | 0 => .array .boolean
  | 1 => .object "Tessera$Graph"
  | 2 => .int
  | 3 => .int
  | 4 => .int
  | 5 => .int
  | 6 => .boolean
  | 7 => .int
  | 8 => .array .boolean
  | 9 => .array .int
  | 10 => .boolean
  | 11 => .array .int
  | 12 => .object "Tessera$Row"
  | 13 => .object "Tessera$Row"
  | _ => .int
abbrev wsX30 : List Cond := u_ws RX3 TX3 15
theorem nmX3 : ∀ a, a < 15 → ∀ b, b < 15 → a ≠ b → (TX3 a).2.1 ≠ (TX3 b).2.1 := by decide +kernel
theorem tyX3_ok : ∀ k, k < 15 → parseFieldDescriptor (TX3 k).2.2.1 = some (tyX3 k) := by decide +kernel
abbrev cX3_init : ByteArray := prog_5_method_1_code
def yX3_init : MethodName := ⟨RX3, "<init>", "(LTessera$Graph;)V"⟩
abbrev cX3_forgetThings : ByteArray := prog_5_method_2_code
def yX3_forgetThings : MethodName := ⟨RX3, "forgetThings", "()V"⟩
abbrev cX3_placeNew : ByteArray := prog_5_method_3_code
def yX3_placeNew : MethodName := ⟨RX3, "placeNew", "(I)V"⟩
abbrev cX3_collectNow : ByteArray := prog_5_method_4_code
def yX3_collectNow : MethodName := ⟨RX3, "collectNow", "()I"⟩
abbrev cX3_goOn : ByteArray := prog_5_method_5_code
def yX3_goOn : MethodName := ⟨RX3, "goOn", "(I)I"⟩
abbrev cX3_learnNaming : ByteArray := prog_5_method_6_code
def yX3_learnNaming : MethodName := ⟨RX3, "learnNaming", "(III)V"⟩
abbrev cX3_countToGo : ByteArray := prog_5_method_7_code
def yX3_countToGo : MethodName := ⟨RX3, "countToGo", "()I"⟩
abbrev cX3_workToDo : ByteArray := prog_5_method_8_code
def yX3_workToDo : MethodName := ⟨RX3, "workToDo", "()I"⟩
abbrev cX3_colourOf : ByteArray := prog_5_method_9_code
def yX3_colourOf : MethodName := ⟨RX3, "colourOf", "(I)I"⟩
abbrev cX3_paint : ByteArray := prog_5_method_10_code
def yX3_paint : MethodName := ⟨RX3, "paint", "(II)V"⟩
abbrev cX3_workAheadOfPlacing : ByteArray := prog_5_method_11_code
def yX3_workAheadOfPlacing : MethodName := ⟨RX3, "workAheadOfPlacing", "()V"⟩
abbrev cX3_beginToMark : ByteArray := prog_5_method_12_code
def yX3_beginToMark : MethodName := ⟨RX3, "beginToMark", "()V"⟩
abbrev cX3_becomeGrey : ByteArray := prog_5_method_13_code
def yX3_becomeGrey : MethodName := ⟨RX3, "becomeGrey", "(I)V"⟩
abbrev cX3_step : ByteArray := prog_5_method_14_code
def yX3_step : MethodName := ⟨RX3, "step", "()V"⟩
abbrev cX3_sweep : ByteArray := prog_5_method_15_code
def yX3_sweep : MethodName := ⟨RX3, "sweep", "()V"⟩
abbrev cX3_foresee : ByteArray := prog_5_method_16_code
def yX3_foresee : MethodName := ⟨RX3, "foresee", "()V"⟩
abbrev cX3_foreseeIfWhite : ByteArray := prog_5_method_17_code
def yX3_foreseeIfWhite : MethodName := ⟨RX3, "foreseeIfWhite", "(I)V"⟩
def RX4 : String := "Tessera$Nursery"
def TX4 : u_T := fun k => match k with
  | 0 => ("Tessera$Store", "graph", "LTessera$Graph;", true)
  | 1 => ("Tessera$Store", "room", "I", false)
  | 2 => ("Tessera$Store", "work", "I", false)
  | 3 => ("Tessera$Store", "longestPause", "I", false)
  | 4 => ("Tessera$Store", "collectings", "I", false)
  | 5 => ("Tessera$Store", "broken", "Z", false)
  | 6 => ("Tessera$Store", "workAhead", "I", false)
  | 7 => ("Tessera$Store", "had", "[Z", true)
  | 8 => ("Tessera$Store", "places", "[I", true)
  | 9 => ("Tessera$Nursery", "smallOnes", "I", false)
  | 10 => ("Tessera$Nursery", "wordsGrownOld", "I", false)
  | 11 => ("Tessera$Nursery", "young", "LTessera$Row;", true)
  | 12 => ("Tessera$Nursery", "old", "LTessera$Row;", true)
  | 13 => ("Tessera$Nursery", "found", "LTessera$Row;", true)
  | 14 => ("Tessera$Nursery", "grown", "[Z", true)
  | 15 => ("Tessera$Nursery", "youngEnd", "I", false)
  | _ => ("Tessera$Nursery", "oldEnd", "I", false)
def tyX4 : Nat → FieldType := fun k => match k with
  | 0 => .object "Tessera$Graph"
  | 1 => .int
  | 2 => .int
  | 3 => .int
  | 4 => .int
  | 5 => .boolean
  | 6 => .int
  | 7 => .array .boolean
  | 8 => .array .int
  | 9 => .int
  | 10 => .int
  | 11 => .object "Tessera$Row"
  | 12 => .object "Tessera$Row"
  | 13 => .object "Tessera$Row"
  | 14 => .array .boolean
  | 15 => .int
  | _ => .int
abbrev wsX40 : List Cond := u_ws RX4 TX4 17
theorem nmX4 : ∀ a, a < 17 → ∀ b, b < 17 → a ≠ b → (TX4 a).2.1 ≠ (TX4 b).2.1 := by decide +kernel
theorem tyX4_ok : ∀ k, k < 17 → parseFieldDescriptor (TX4 k).2.2.1 = some (tyX4 k) := by decide +kernel
abbrev cX4_init : ByteArray := prog_6_method_1_code
def yX4_init : MethodName := ⟨RX4, "<init>", "(LTessera$Graph;)V"⟩
abbrev cX4_forgetThings : ByteArray := prog_6_method_2_code
def yX4_forgetThings : MethodName := ⟨RX4, "forgetThings", "()V"⟩
abbrev cX4_resetCounters : ByteArray := prog_6_method_3_code
def yX4_resetCounters : MethodName := ⟨RX4, "resetCounters", "()V"⟩
abbrev cX4_placeNew : ByteArray := prog_6_method_4_code
def yX4_placeNew : MethodName := ⟨RX4, "placeNew", "(I)V"⟩
abbrev cX4_collectNow : ByteArray := prog_6_method_5_code
def yX4_collectNow : MethodName := ⟨RX4, "collectNow", "()I"⟩
abbrev cX4_cleanUpYoung : ByteArray := prog_6_method_6_code
def yX4_cleanUpYoung : MethodName := ⟨RX4, "cleanUpYoung", "()I"⟩
abbrev cX4_countToGo : ByteArray := prog_6_method_7_code
def yX4_countToGo : MethodName := ⟨RX4, "countToGo", "()I"⟩
abbrev cX4_workToDo : ByteArray := prog_6_method_8_code
def yX4_workToDo : MethodName := ⟨RX4, "workToDo", "()I"⟩
abbrev cX4_freeTogether : ByteArray := prog_6_method_9_code
def yX4_freeTogether : MethodName := ⟨RX4, "freeTogether", "()I"⟩
abbrev cX4_ageOf : ByteArray := prog_6_method_10_code
def yX4_ageOf : MethodName := ⟨RX4, "ageOf", "(I)I"⟩
abbrev cX4_isRemembered : ByteArray := prog_6_method_11_code
def yX4_isRemembered : MethodName := ⟨RX4, "isRemembered", "(I)Z"⟩
abbrev cX4_greatFits : ByteArray := prog_6_method_12_code
def yX4_greatFits : MethodName := ⟨RX4, "greatFits", "()Z"⟩
abbrev cX4_isGrown : ByteArray := prog_6_method_13_code
def yX4_isGrown : MethodName := ⟨RX4, "isGrown", "(I)Z"⟩
abbrev cX4_wordsGrown : ByteArray := prog_6_method_14_code
def yX4_wordsGrown : MethodName := ⟨RX4, "wordsGrown", "()I"⟩
abbrev cX4_findReached : ByteArray := prog_6_method_15_code
def yX4_findReached : MethodName := ⟨RX4, "findReached", "()V"⟩
abbrev cX4_addReached : ByteArray := prog_6_method_16_code
def yX4_addReached : MethodName := ⟨RX4, "addReached", "(LTessera$Row;)V"⟩
abbrev cX4_findYoung : ByteArray := prog_6_method_17_code
def yX4_findYoung : MethodName := ⟨RX4, "findYoung", "()V"⟩
abbrev cX4_addYoungNamedBy : ByteArray := prog_6_method_18_code
def yX4_addYoungNamedBy : MethodName := ⟨RX4, "addYoungNamedBy", "(I)V"⟩
abbrev cX4_addYoung : ByteArray := prog_6_method_19_code
def yX4_addYoung : MethodName := ⟨RX4, "addYoung", "(I)V"⟩
abbrev cX4_moveFound : ByteArray := prog_6_method_20_code
def yX4_moveFound : MethodName := ⟨RX4, "moveFound", "(I)V"⟩
abbrev cX4_putYoung : ByteArray := prog_6_method_21_code
def yX4_putYoung : MethodName := ⟨RX4, "putYoung", "(IZ)V"⟩
abbrev cX4_putOld : ByteArray := prog_6_method_22_code
def yX4_putOld : MethodName := ⟨RX4, "putOld", "(I)V"⟩
def RX5 : String := "Tessera$Row"
def TX5 : u_T := fun k => match k with
  | 0 => ("Tessera$Row", "items", "[I", true)
  | 1 => ("Tessera$Row", "inside", "[Z", true)
  | _ => ("Tessera$Row", "size", "I", false)
def tyX5 : Nat → FieldType := fun k => match k with
  | 0 => .array .int
  | 1 => .array .boolean
  | _ => .int
abbrev wsX50 : List Cond := u_ws RX5 TX5 3
theorem nmX5 : ∀ a, a < 3 → ∀ b, b < 3 → a ≠ b → (TX5 a).2.1 ≠ (TX5 b).2.1 := by decide +kernel
theorem tyX5_ok : ∀ k, k < 3 → parseFieldDescriptor (TX5 k).2.2.1 = some (tyX5 k) := by decide +kernel
abbrev cX5_init : ByteArray := prog_7_method_1_code
def yX5_init : MethodName := ⟨RX5, "<init>", "()V"⟩
abbrev cX5_empty : ByteArray := prog_7_method_2_code
def yX5_empty : MethodName := ⟨RX5, "empty", "()V"⟩
abbrev cX5_add : ByteArray := prog_7_method_3_code
def yX5_add : MethodName := ⟨RX5, "add", "(I)V"⟩
abbrev cX5_holds : ByteArray := prog_7_method_4_code
def yX5_holds : MethodName := ⟨RX5, "holds", "(I)Z"⟩
abbrev cX5_get : ByteArray := prog_7_method_5_code
def yX5_get : MethodName := ⟨RX5, "get", "(I)I"⟩
def RX6 : String := "Tessera$Scattered"
def TX6 : u_T := fun k => match k with
  | _ => ("", "", "", false)
def tyX6 : Nat → FieldType := fun k => match k with
  | _ => .int
abbrev wsX60 : List Cond := u_ws RX6 TX6 0
theorem nmX6 : ∀ a, a < 0 → ∀ b, b < 0 → a ≠ b → (TX6 a).2.1 ≠ (TX6 b).2.1 := by decide +kernel
theorem tyX6_ok : ∀ k, k < 0 → parseFieldDescriptor (TX6 k).2.2.1 = some (tyX6 k) := by decide +kernel
abbrev cX6_init : ByteArray := prog_8_method_1_code
def yX6_init : MethodName := ⟨RX6, "<init>", "(LTessera$Graph;)V"⟩
abbrev cX6_firstPlaceFor : ByteArray := prog_8_method_2_code
def yX6_firstPlaceFor : MethodName := ⟨RX6, "firstPlaceFor", "(I)I"⟩
abbrev cX6_freeTogether : ByteArray := prog_8_method_3_code
def yX6_freeTogether : MethodName := ⟨RX6, "freeTogether", "()I"⟩
abbrev cX6_markTaken : ByteArray := prog_8_method_4_code
def yX6_markTaken : MethodName := ⟨RX6, "markTaken", "()V"⟩
abbrev cX6_markTakenBy : ByteArray := prog_8_method_5_code
def yX6_markTakenBy : MethodName := ⟨RX6, "markTakenBy", "(I)V"⟩
def RX7 : String := "Tessera$Store"
def TX7 : u_T := fun k => match k with
  | _ => ("", "", "", false)
def tyX7 : Nat → FieldType := fun k => match k with
  | _ => .int
abbrev wsX70 : List Cond := u_ws RX7 TX7 0
theorem nmX7 : ∀ a, a < 0 → ∀ b, b < 0 → a ≠ b → (TX7 a).2.1 ≠ (TX7 b).2.1 := by decide +kernel
theorem tyX7_ok : ∀ k, k < 0 → parseFieldDescriptor (TX7 k).2.2.1 = some (tyX7 k) := by decide +kernel
abbrev cX7_init : ByteArray := prog_9_method_1_code
def yX7_init : MethodName := ⟨RX7, "<init>", "(LTessera$Graph;)V"⟩
abbrev cX7_resetCounters : ByteArray := prog_9_method_8_code
def yX7_resetCounters : MethodName := ⟨RX7, "resetCounters", "()V"⟩
abbrev cX7_learnNaming : ByteArray := prog_9_method_9_code
def yX7_learnNaming : MethodName := ⟨RX7, "learnNaming", "(III)V"⟩
abbrev cX7_startAnew : ByteArray := prog_9_method_10_code
def yX7_startAnew : MethodName := ⟨RX7, "startAnew", "(I)V"⟩
abbrev cX7_cleanUp : ByteArray := prog_9_method_11_code
def yX7_cleanUp : MethodName := ⟨RX7, "cleanUp", "()I"⟩
abbrev cX7_openPause : ByteArray := prog_9_method_12_code
def yX7_openPause : MethodName := ⟨RX7, "openPause", "()V"⟩
abbrev cX7_closePause : ByteArray := prog_9_method_13_code
def yX7_closePause : MethodName := ⟨RX7, "closePause", "()V"⟩
abbrev cX7_breakDown : ByteArray := prog_9_method_14_code
def yX7_breakDown : MethodName := ⟨RX7, "breakDown", "()V"⟩
abbrev cX7_has : ByteArray := prog_9_method_15_code
def yX7_has : MethodName := ⟨RX7, "has", "(I)Z"⟩
abbrev cX7_placeOf : ByteArray := prog_9_method_16_code
def yX7_placeOf : MethodName := ⟨RX7, "placeOf", "(I)I"⟩
abbrev cX7_put : ByteArray := prog_9_method_17_code
def yX7_put : MethodName := ⟨RX7, "put", "(II)V"⟩
abbrev cX7_letGo : ByteArray := prog_9_method_18_code
def yX7_letGo : MethodName := ⟨RX7, "letGo", "(I)V"⟩
abbrev cX7_letAllGo : ByteArray := prog_9_method_19_code
def yX7_letAllGo : MethodName := ⟨RX7, "letAllGo", "()V"⟩
abbrev cX7_countHad : ByteArray := prog_9_method_20_code
def yX7_countHad : MethodName := ⟨RX7, "countHad", "()I"⟩
abbrev cX7_wordsHad : ByteArray := prog_9_method_21_code
def yX7_wordsHad : MethodName := ⟨RX7, "wordsHad", "()I"⟩
abbrev cX7_countUnreached : ByteArray := prog_9_method_22_code
def yX7_countUnreached : MethodName := ⟨RX7, "countUnreached", "()I"⟩
abbrev cX7_wordsReached : ByteArray := prog_9_method_23_code
def yX7_wordsReached : MethodName := ⟨RX7, "wordsReached", "()I"⟩
def RX8 : String := "Tessera"
def TX8 : u_T := fun k => match k with
  | 0 => ("Tessera", "graph", "LTessera$Graph;", true)
  | 1 => ("Tessera", "nursery", "LTessera$Nursery;", true)
  | 2 => ("Tessera", "marking", "LTessera$Marking;", true)
  | 3 => ("Tessera", "counting", "LTessera$Counting;", true)
  | 4 => ("Tessera", "stores", "[LTessera$Store;", true)
  | _ => ("Tessera", "room", "I", false)
def tyX8 : Nat → FieldType := fun k => match k with
  | 0 => .object "Tessera$Graph"
  | 1 => .object "Tessera$Nursery"
  | 2 => .object "Tessera$Marking"
  | 3 => .object "Tessera$Counting"
  | 4 => .array (.object "Tessera$Store")
  | _ => .int
abbrev wsX80 : List Cond := u_ws RX8 TX8 6
theorem nmX8 : ∀ a, a < 6 → ∀ b, b < 6 → a ≠ b → (TX8 a).2.1 ≠ (TX8 b).2.1 := by decide +kernel
theorem tyX8_ok : ∀ k, k < 6 → parseFieldDescriptor (TX8 k).2.2.1 = some (tyX8 k) := by decide +kernel
abbrev cX8_init : ByteArray := prog_1_method_1_code
def yX8_init : MethodName := ⟨RX8, "<init>", "()V"⟩
abbrev cX8_begin : ByteArray := prog_1_method_2_code
def yX8_begin : MethodName := ⟨RX8, "begin", "(I)I"⟩
abbrev cX8_make : ByteArray := prog_1_method_3_code
def yX8_make : MethodName := ⟨RX8, "make", "(II)I"⟩
abbrev cX8_set : ByteArray := prog_1_method_4_code
def yX8_set : MethodName := ⟨RX8, "set", "(III)I"⟩
abbrev cX8_root : ByteArray := prog_1_method_5_code
def yX8_root : MethodName := ⟨RX8, "root", "(II)I"⟩
abbrev cX8_things : ByteArray := prog_1_method_6_code
def yX8_things : MethodName := ⟨RX8, "things", "()I"⟩
abbrev cX8_ofThing : ByteArray := prog_1_method_7_code
def yX8_ofThing : MethodName := ⟨RX8, "ofThing", "(II)I"⟩
abbrev cX8_named : ByteArray := prog_1_method_8_code
def yX8_named : MethodName := ⟨RX8, "named", "(II)I"⟩
abbrev cX8_collect : ByteArray := prog_1_method_9_code
def yX8_collect : MethodName := ⟨RX8, "collect", "(I)I"⟩
abbrev cX8_steps : ByteArray := prog_1_method_11_code
def yX8_steps : MethodName := ⟨RX8, "steps", "(I)I"⟩
abbrev cX8_at : ByteArray := prog_1_method_12_code
def yX8_at : MethodName := ⟨RX8, "at", "(II)I"⟩
abbrev cX8_told : ByteArray := prog_1_method_13_code
def yX8_told : MethodName := ⟨RX8, "told", "(II)I"⟩
abbrev cX8_kept : ByteArray := prog_1_method_14_code
def yX8_kept : MethodName := ⟨RX8, "kept", "(II)I"⟩
abbrev cX8_more : ByteArray := prog_1_method_15_code
def yX8_more : MethodName := ⟨RX8, "more", "(I)I"⟩
abbrev cX8_wouldGo : ByteArray := prog_1_method_16_code
def yX8_wouldGo : MethodName := ⟨RX8, "wouldGo", "(I)I"⟩
abbrev cX8_wouldWork : ByteArray := prog_1_method_17_code
def yX8_wouldWork : MethodName := ⟨RX8, "wouldWork", "(I)I"⟩
abbrev cX8_wouldLose : ByteArray := prog_1_method_18_code
def yX8_wouldLose : MethodName := ⟨RX8, "wouldLose", "(I)I"⟩
abbrev cX8_digest : ByteArray := prog_1_method_20_code
def yX8_digest : MethodName := ⟨RX8, "digest", "()J"⟩
abbrev cX8_mixedThing : ByteArray := prog_1_method_21_code
def yX8_mixedThing : MethodName := ⟨RX8, "mixedThing", "(JI)J"⟩
abbrev cX8_mixed : ByteArray := prog_1_method_22_code
def yX8_mixed : MethodName := ⟨RX8, "mixed", "(JI)J"⟩
abbrev cX8_asNumber : ByteArray := prog_1_method_23_code
def yX8_asNumber : MethodName := ⟨RX8, "asNumber", "(Z)I"⟩
abbrev cX8_checkThing : ByteArray := prog_1_method_24_code
def yX8_checkThing : MethodName := ⟨RX8, "checkThing", "(I)V"⟩
abbrev cX8_checkNameable : ByteArray := prog_1_method_25_code
def yX8_checkNameable : MethodName := ⟨RX8, "checkNameable", "(I)V"⟩
abbrev cX8_checkRoot : ByteArray := prog_1_method_26_code
def yX8_checkRoot : MethodName := ⟨RX8, "checkRoot", "(I)V"⟩
abbrev cX8_checkWhat : ByteArray := prog_1_method_27_code
def yX8_checkWhat : MethodName := ⟨RX8, "checkWhat", "(II)V"⟩
abbrev cX8_storeOf : ByteArray := prog_1_method_28_code
def yX8_storeOf : MethodName := ⟨RX8, "storeOf", "(I)LTessera$Store;"⟩
abbrev cX8_nameByRoot : ByteArray := prog_1_method_29_code
def yX8_nameByRoot : MethodName := ⟨RX8, "nameByRoot", "(II)I"⟩
abbrev cX8_tellStores : ByteArray := prog_1_method_30_code
def yX8_tellStores : MethodName := ⟨RX8, "tellStores", "(III)V"⟩
abbrev cX8_openPauses : ByteArray := prog_1_method_31_code
def yX8_openPauses : MethodName := ⟨RX8, "openPauses", "()V"⟩
abbrev cX8_closePauses : ByteArray := prog_1_method_32_code
def yX8_closePauses : MethodName := ⟨RX8, "closePauses", "()V"⟩
def RX9 : String := "TesseraModel$Copying"
def TX9 : u_T := fun k => match k with
  | _ => ("", "", "", false)
def tyX9 : Nat → FieldType := fun k => match k with
  | _ => .int
abbrev wsX90 : List Cond := u_ws RX9 TX9 0
theorem nmX9 : ∀ a, a < 0 → ∀ b, b < 0 → a ≠ b → (TX9 a).2.1 ≠ (TX9 b).2.1 := by decide +kernel
theorem tyX9_ok : ∀ k, k < 0 → parseFieldDescriptor (TX9 k).2.2.1 = some (tyX9 k) := by decide +kernel
def RX10 : String := "TesseraModel$Counting"
def TX10 : u_T := fun k => match k with
  | _ => ("", "", "", false)
def tyX10 : Nat → FieldType := fun k => match k with
  | _ => .int
abbrev wsX100 : List Cond := u_ws RX10 TX10 0
theorem nmX10 : ∀ a, a < 0 → ∀ b, b < 0 → a ≠ b → (TX10 a).2.1 ≠ (TX10 b).2.1 := by decide +kernel
theorem tyX10_ok : ∀ k, k < 0 → parseFieldDescriptor (TX10 k).2.2.1 = some (tyX10 k) := by decide +kernel
def RX11 : String := "TesseraModel$Fitting"
def TX11 : u_T := fun k => match k with
  | _ => ("", "", "", false)
def tyX11 : Nat → FieldType := fun k => match k with
  | _ => .int
abbrev wsX110 : List Cond := u_ws RX11 TX11 0
theorem nmX11 : ∀ a, a < 0 → ∀ b, b < 0 → a ≠ b → (TX11 a).2.1 ≠ (TX11 b).2.1 := by decide +kernel
theorem tyX11_ok : ∀ k, k < 0 → parseFieldDescriptor (TX11 k).2.2.1 = some (tyX11 k) := by decide +kernel
def RX12 : String := "TesseraModel$Marking"
def TX12 : u_T := fun k => match k with
  | _ => ("", "", "", false)
def tyX12 : Nat → FieldType := fun k => match k with
  | _ => .int
abbrev wsX120 : List Cond := u_ws RX12 TX12 0
theorem nmX12 : ∀ a, a < 0 → ∀ b, b < 0 → a ≠ b → (TX12 a).2.1 ≠ (TX12 b).2.1 := by decide +kernel
theorem tyX12_ok : ∀ k, k < 0 → parseFieldDescriptor (TX12 k).2.2.1 = some (tyX12 k) := by decide +kernel
def RX13 : String := "TesseraModel$Names"
def TX13 : u_T := fun k => match k with
  | _ => ("", "", "", false)
def tyX13 : Nat → FieldType := fun k => match k with
  | _ => .int
abbrev wsX130 : List Cond := u_ws RX13 TX13 0
theorem nmX13 : ∀ a, a < 0 → ∀ b, b < 0 → a ≠ b → (TX13 a).2.1 ≠ (TX13 b).2.1 := by decide +kernel
theorem tyX13_ok : ∀ k, k < 0 → parseFieldDescriptor (TX13 k).2.2.1 = some (tyX13 k) := by decide +kernel
def RX14 : String := "TesseraModel$Nursery"
def TX14 : u_T := fun k => match k with
  | _ => ("", "", "", false)
def tyX14 : Nat → FieldType := fun k => match k with
  | _ => .int
abbrev wsX140 : List Cond := u_ws RX14 TX14 0
theorem nmX14 : ∀ a, a < 0 → ∀ b, b < 0 → a ≠ b → (TX14 a).2.1 ≠ (TX14 b).2.1 := by decide +kernel
theorem tyX14_ok : ∀ k, k < 0 → parseFieldDescriptor (TX14 k).2.2.1 = some (tyX14 k) := by decide +kernel
def RX15 : String := "TesseraModel$Store"
def TX15 : u_T := fun k => match k with
  | _ => ("", "", "", false)
def tyX15 : Nat → FieldType := fun k => match k with
  | _ => .int
abbrev wsX150 : List Cond := u_ws RX15 TX15 0
theorem nmX15 : ∀ a, a < 0 → ∀ b, b < 0 → a ≠ b → (TX15 a).2.1 ≠ (TX15 b).2.1 := by decide +kernel
theorem tyX15_ok : ∀ k, k < 0 → parseFieldDescriptor (TX15 k).2.2.1 = some (tyX15 k) := by decide +kernel
def RX16 : String := "TesseraModel"
def TX16 : u_T := fun k => match k with
  | _ => ("", "", "", false)
def tyX16 : Nat → FieldType := fun k => match k with
  | _ => .int
abbrev wsX160 : List Cond := u_ws RX16 TX16 0
theorem nmX16 : ∀ a, a < 0 → ∀ b, b < 0 → a ≠ b → (TX16 a).2.1 ≠ (TX16 b).2.1 := by decide +kernel
theorem tyX16_ok : ∀ k, k < 0 → parseFieldDescriptor (TX16 k).2.2.1 = some (tyX16 k) := by decide +kernel
def RJx145de : String := "java/io/Serializable"
def TJx145de : u_T := fun k => match k with
  | _ => ("", "", "", false)
def RJ9 : String := "java/lang/Math"
def TJ9 : u_T := fun k => match k with
  | _ => ("", "", "", false)
abbrev cJ9_max_7cf53 : ByteArray := prog_23_method_65_code
def yJ9_max_7cf53 : MethodName := ⟨RJ9, "max", "(II)I"⟩
def RJ0 : String := "java/lang/String"
def TJ0 : u_T := fun k => match k with
  | _ => ("", "", "", false)
def RJ7 : String := "java/util/Arrays"
def TJ7 : u_T := fun k => match k with
  | _ => ("", "", "", false)
abbrev cJ7_fill_53178 : ByteArray := prog_27_method_103_code
def yJ7_fill_53178 : MethodName := ⟨RJ7, "fill", "([II)V"⟩
def RL : String := "TesseraLaw"
abbrev cL_below : ByteArray := method_2_code
def yL_below : MethodName := ⟨RL, "below", "(II)I"⟩
abbrev cL_cell : ByteArray := method_3_code
def yL_cell : MethodName := ⟨RL, "cell", "([II)I"⟩
abbrev cL_law : ByteArray := code
def yL_law : MethodName := ⟨RL, "law", "([I)Z"⟩
def wsL_law0_r1 : List Cond := [Cond.classLink RL 9 RX8, Cond.instantiable RX8 6, Cond.initialized RX8, Cond.arrayClass .int, Cond.arrayClass .boolean, Cond.methodLink RL 11 yX8_init, Cond.instanceMethod yX8_init, Cond.code yX8_init cX8_init 6 none, Cond.methodLink RX8 1 objectInit, Cond.instanceMethod objectInit, Cond.code objectInit ⟨#[0xb1]⟩ 1 none, Cond.classLink RX8 7 RX2, Cond.instantiable RX2 7, Cond.initialized RX2, Cond.classLink RX8 10 RX4, Cond.instantiable RX4 17, Cond.initialized RX4, Cond.classLink RX8 15 RX3, Cond.instantiable RX3 15, Cond.initialized RX3, Cond.classLink RX8 18 RX1, Cond.instantiable RX1 17, Cond.initialized RX1, Cond.classLink RX8 23 RX7]
def wsL_law0_r2 : List Cond := [Cond.classLink RX8 25 RX0, Cond.instantiable RX0 12, Cond.initialized RX0, Cond.fieldLink RX8 28 "Tessera" "graph" "LTessera$Graph;", Cond.fieldLink RX8 32 "Tessera" "nursery" "LTessera$Nursery;", Cond.fieldLink RX8 36 "Tessera" "marking" "LTessera$Marking;", Cond.fieldLink RX8 40 "Tessera" "counting" "LTessera$Counting;", Cond.fieldLink RX8 44 "Tessera" "stores" "[LTessera$Store;", Cond.fieldLink RX8 48 "Tessera" "room" "I", Cond.methodLink RX8 9 yX2_init, Cond.instanceMethod yX2_init, Cond.code yX2_init cX2_init 2 none, Cond.methodLink RX2 3 objectInit, Cond.fieldLink RX2 9 "Tessera$Graph" "fields" "[I", Cond.fieldLink RX2 15 "Tessera$Graph" "names" "[I", Cond.fieldLink RX2 18 "Tessera$Graph" "roots" "[I", Cond.fieldLink RX2 21 "Tessera$Graph" "distances" "[I", Cond.classLink RX2 24 RX5, Cond.instantiable RX5 3, Cond.initialized RX5, Cond.fieldLink RX2 27 "Tessera$Graph" "reached" "LTessera$Row;", Cond.fieldLink RX2 31 "Tessera$Graph" "reachedOtherwise" "LTessera$Row;", Cond.instanceMethod yX5_init, Cond.code yX5_init cX5_init 1 none]
def wsL_law0_r3 : List Cond := [Cond.methodLink RX5 3 objectInit, Cond.fieldLink RX5 9 "Tessera$Row" "items" "[I", Cond.fieldLink RX5 15 "Tessera$Row" "inside" "[Z", Cond.methodLink RX8 12 yX4_init, Cond.instanceMethod yX4_init, Cond.code yX4_init cX4_init 2 none, Cond.classLink RX4 9 RX5, Cond.fieldLink RX4 14 "Tessera$Nursery" "young" "LTessera$Row;", Cond.fieldLink RX4 20 "Tessera$Nursery" "old" "LTessera$Row;", Cond.fieldLink RX4 23 "Tessera$Nursery" "found" "LTessera$Row;", Cond.fieldLink RX4 26 "Tessera$Nursery" "grown" "[Z", Cond.fieldLink RX4 30 "Tessera$Nursery" "oldEnd" "I", Cond.methodLink RX4 3 yX7_init, Cond.instanceMethod yX7_init, Cond.initialized RX7, Cond.code yX7_init cX7_init 2 none, Cond.methodLink RX7 3 objectInit, Cond.fieldLink RX7 9 "Tessera$Store" "had" "[Z", Cond.fieldLink RX7 15 "Tessera$Store" "places" "[I", Cond.fieldLink RX7 19 "Tessera$Store" "graph" "LTessera$Graph;", Cond.fieldLink RX7 23 "Tessera$Store" "room" "I", Cond.methodLink RX8 17 yX3_init, Cond.instanceMethod yX3_init, Cond.code yX3_init cX3_init 2 none]
def wsL_law0_r4 : List Cond := [Cond.fieldLink RX3 9 "Tessera$Marking" "colours" "[I", Cond.classLink RX3 15 RX5, Cond.fieldLink RX3 20 "Tessera$Marking" "greys" "LTessera$Row;", Cond.fieldLink RX3 24 "Tessera$Marking" "foreseen" "LTessera$Row;", Cond.methodLink RX3 3 yX6_init, Cond.instanceMethod yX6_init, Cond.initialized RX6, Cond.code yX6_init cX6_init 2 none, Cond.fieldLink RX6 9 "Tessera$Scattered" "taken" "[Z", Cond.methodLink RX6 3 yX7_init, Cond.methodLink RX8 20 yX1_init, Cond.instanceMethod yX1_init, Cond.code yX1_init cX1_init 2 none, Cond.fieldLink RX1 9 "Tessera$Counting" "counts" "[I", Cond.fieldLink RX1 15 "Tessera$Counting" "suspects" "[Z", Cond.fieldLink RX1 19 "Tessera$Counting" "namedInside" "[I", Cond.classLink RX1 22 RX5, Cond.fieldLink RX1 27 "Tessera$Counting" "fallen" "LTessera$Row;", Cond.fieldLink RX1 31 "Tessera$Counting" "suspected" "LTessera$Row;", Cond.fieldLink RX1 34 "Tessera$Counting" "leftOut" "LTessera$Row;", Cond.methodLink RX1 3 yX6_init, Cond.methodLink RX8 27 yX0_init, Cond.instanceMethod yX0_init, Cond.code yX0_init cX0_init 2 none]
def wsL_law0_r5 : List Cond := [Cond.classLink RX0 9 RX5, Cond.fieldLink RX0 14 "Tessera$Copying" "copied" "LTessera$Row;", Cond.methodLink RX0 3 yX7_init, Cond.methodLink RL 12 yL_cell, Cond.static yL_cell, Cond.initialized RL, Cond.code yL_cell cL_cell 2 (some .int), Cond.constant RL 8 (790386105), Cond.methodLink RL 18 yL_below, Cond.static yL_below, Cond.code yL_below cL_below 2 (some .int), Cond.constant RL 7 (2147483647), Cond.methodLink RL 22 yX8_begin, Cond.instanceMethod yX8_begin, Cond.selects RX8 yX8_begin yX8_begin, Cond.code yX8_begin cX8_begin 4 (some .int), Cond.classLink RX8 52 "java/lang/IllegalArgumentException", Cond.initialized "java/lang/IllegalArgumentException", Cond.methodLink RX8 59 yX2_startAnew, Cond.instanceMethod yX2_startAnew, Cond.selects RX2 yX2_startAnew yX2_startAnew, Cond.code yX2_startAnew cX2_startAnew 1 none, Cond.fieldLink RX2 34 "Tessera$Graph" "count" "I", Cond.methodLink RX2 38 yJ7_fill_53178]
def wsL_law0_r6 : List Cond := [Cond.static yJ7_fill_53178, Cond.initialized RJ7, Cond.code yJ7_fill_53178 cJ7_fill_53178 4 none, Cond.methodLink RX2 44 yX5_empty, Cond.instanceMethod yX5_empty, Cond.selects RX5 yX5_empty yX5_empty, Cond.code yX5_empty cX5_empty 2 none, Cond.fieldLink RX5 19 "Tessera$Row" "size" "I", Cond.methodLink RX8 62 ⟨"Tessera$Store", "startAnew", "(I)V"⟩, Cond.sameMethod "Tessera$Store" "Tessera$Store" "startAnew" "(I)V", Cond.selects RX0 ⟨"Tessera$Store", "startAnew", "(I)V"⟩ yX7_startAnew, Cond.instanceMethod yX7_startAnew, Cond.code yX7_startAnew cX7_startAnew 2 none, Cond.fieldLink RX7 27 "Tessera$Store" "work" "I", Cond.fieldLink RX7 30 "Tessera$Store" "longestPause" "I", Cond.fieldLink RX7 33 "Tessera$Store" "collectings" "I", Cond.fieldLink RX7 36 "Tessera$Store" "broken" "Z", Cond.fieldLink RX7 40 "Tessera$Store" "workAhead" "I", Cond.methodLink RX7 43 ⟨"Tessera$Store", "letAllGo", "()V"⟩, Cond.sameMethod "Tessera$Store" "Tessera$Store" "letAllGo" "()V", Cond.selects RX0 ⟨"Tessera$Store", "letAllGo", "()V"⟩ yX7_letAllGo, Cond.instanceMethod yX7_letAllGo, Cond.code yX7_letAllGo cX7_letAllGo 2 none, Cond.selects RX1 ⟨"Tessera$Store", "letAllGo", "()V"⟩ yX7_letAllGo]
def wsL_law0_r7 : List Cond := [Cond.selects RX3 ⟨"Tessera$Store", "letAllGo", "()V"⟩ yX7_letAllGo, Cond.selects RX4 ⟨"Tessera$Store", "letAllGo", "()V"⟩ yX7_letAllGo, Cond.methodLink RX7 46 ⟨"Tessera$Store", "forgetThings", "()V"⟩, Cond.sameMethod "Tessera$Store" "Tessera$Store" "forgetThings" "()V", Cond.selects RX0 ⟨"Tessera$Store", "forgetThings", "()V"⟩ yX0_forgetThings, Cond.instanceMethod yX0_forgetThings, Cond.code yX0_forgetThings cX0_forgetThings 1 none, Cond.fieldLink RX0 20 "Tessera$Copying" "usesSecond" "Z", Cond.fieldLink RX0 24 "Tessera$Copying" "used" "I", Cond.selects RX1 ⟨"Tessera$Store", "forgetThings", "()V"⟩ yX1_forgetThings, Cond.instanceMethod yX1_forgetThings, Cond.code yX1_forgetThings cX1_forgetThings 2 none, Cond.selects RX3 ⟨"Tessera$Store", "forgetThings", "()V"⟩ yX3_forgetThings, Cond.instanceMethod yX3_forgetThings, Cond.code yX3_forgetThings cX3_forgetThings 1 none, Cond.fieldLink RX3 27 "Tessera$Marking" "marks" "Z", Cond.fieldLink RX3 34 "Tessera$Marking" "firstGrey" "I", Cond.methodLink RX3 31 yX5_empty, Cond.selects RX4 ⟨"Tessera$Store", "forgetThings", "()V"⟩ yX4_forgetThings, Cond.instanceMethod yX4_forgetThings, Cond.code yX4_forgetThings cX4_forgetThings 1 none, Cond.fieldLink RX4 37 "Tessera$Nursery" "youngEnd" "I", Cond.fieldLink RX4 40 "Tessera$Nursery" "room" "I", Cond.sameField "Tessera$Nursery" "Tessera$Store" "room" "I"]
def wsL_law0_r8 : List Cond := [Cond.methodLink RX4 34 yX5_empty, Cond.methodLink RX7 49 ⟨"Tessera$Store", "resetCounters", "()V"⟩, Cond.sameMethod "Tessera$Store" "Tessera$Store" "resetCounters" "()V", Cond.selects RX0 ⟨"Tessera$Store", "resetCounters", "()V"⟩ yX7_resetCounters, Cond.instanceMethod yX7_resetCounters, Cond.code yX7_resetCounters cX7_resetCounters 1 none, Cond.instanceMethod ⟨"Tessera$Store", "resetCounters", "()V"⟩, Cond.selects RX1 ⟨"Tessera$Store", "resetCounters", "()V"⟩ yX1_resetCounters, Cond.instanceMethod yX1_resetCounters, Cond.code yX1_resetCounters cX1_resetCounters 1 none, Cond.fieldLink RX1 37 "Tessera$Counting" "goneByRings" "I", Cond.selects RX3 ⟨"Tessera$Store", "resetCounters", "()V"⟩ yX7_resetCounters, Cond.selects RX4 ⟨"Tessera$Store", "resetCounters", "()V"⟩ yX4_resetCounters, Cond.instanceMethod yX4_resetCounters, Cond.code yX4_resetCounters cX4_resetCounters 1 none, Cond.fieldLink RX4 43 "Tessera$Nursery" "smallOnes" "I", Cond.fieldLink RX4 46 "Tessera$Nursery" "wordsGrownOld" "I", Cond.selects RX1 ⟨"Tessera$Store", "startAnew", "(I)V"⟩ yX7_startAnew, Cond.selects RX3 ⟨"Tessera$Store", "startAnew", "(I)V"⟩ yX7_startAnew, Cond.selects RX4 ⟨"Tessera$Store", "startAnew", "(I)V"⟩ yX7_startAnew, Cond.methodLink RL 26 yX8_things, Cond.instanceMethod yX8_things, Cond.selects RX8 yX8_things yX8_things, Cond.code yX8_things cX8_things 1 (some .int)]
def wsL_law0_r9 : List Cond := [Cond.fieldLink RX8 70 "Tessera$Graph" "count" "I", Cond.methodLink RL 30 yX8_make, Cond.instanceMethod yX8_make, Cond.selects RX8 yX8_make yX8_make, Cond.code yX8_make cX8_make 5 (some .int), Cond.classLink RX8 73 "java/lang/IllegalStateException", Cond.initialized "java/lang/IllegalStateException", Cond.fieldLink RX8 85 "Tessera$Store" "broken" "Z", Cond.methodLink RX8 67 yX8_checkRoot, Cond.static yX8_checkRoot, Cond.code yX8_checkRoot cX8_checkRoot 1 none, Cond.classLink RX8 107 "java/lang/IndexOutOfBoundsException", Cond.initialized "java/lang/IndexOutOfBoundsException", Cond.methodLink RX8 78 yX8_openPauses, Cond.instanceMethod yX8_openPauses, Cond.selects RX8 yX8_openPauses yX8_openPauses, Cond.code yX8_openPauses cX8_openPauses 2 none, Cond.methodLink RX8 148 ⟨"Tessera$Store", "openPause", "()V"⟩, Cond.sameMethod "Tessera$Store" "Tessera$Store" "openPause" "()V", Cond.selects RX0 ⟨"Tessera$Store", "openPause", "()V"⟩ yX7_openPause, Cond.instanceMethod yX7_openPause, Cond.code yX7_openPause cX7_openPause 1 none, Cond.selects RX1 ⟨"Tessera$Store", "openPause", "()V"⟩ yX7_openPause, Cond.selects RX3 ⟨"Tessera$Store", "openPause", "()V"⟩ yX7_openPause]
def wsL_law0_r10 : List Cond := [Cond.selects RX4 ⟨"Tessera$Store", "openPause", "()V"⟩ yX7_openPause, Cond.methodLink RX8 81 yX2_addThing, Cond.instanceMethod yX2_addThing, Cond.selects RX2 yX2_addThing yX2_addThing, Cond.code yX2_addThing cX2_addThing 4 (some .int), Cond.methodLink RX8 89 ⟨"Tessera$Store", "placeNew", "(I)V"⟩, Cond.sameMethod "Tessera$Store" "Tessera$Store" "placeNew" "(I)V", Cond.selects RX0 ⟨"Tessera$Store", "placeNew", "(I)V"⟩ yX0_placeNew, Cond.instanceMethod yX0_placeNew, Cond.code yX0_placeNew cX0_placeNew 3 none, Cond.fieldLink RX0 28 "Tessera$Copying" "graph" "LTessera$Graph;", Cond.sameField "Tessera$Copying" "Tessera$Store" "graph" "LTessera$Graph;", Cond.methodLink RX0 32 yX2_wordsOf, Cond.instanceMethod yX2_wordsOf, Cond.selects RX2 yX2_wordsOf yX2_wordsOf, Cond.code yX2_wordsOf cX2_wordsOf 2 (some .int), Cond.methodLink RX0 38 yX0_freeTogether, Cond.instanceMethod yX0_freeTogether, Cond.selects RX0 yX0_freeTogether yX0_freeTogether, Cond.code yX0_freeTogether cX0_freeTogether 1 (some .int), Cond.fieldLink RX0 80 "Tessera$Copying" "room" "I", Cond.sameField "Tessera$Copying" "Tessera$Store" "room" "I", Cond.methodLink RX0 42 yX0_collectNow, Cond.instanceMethod yX0_collectNow]
def wsL_law0_r11 : List Cond := [Cond.selects RX0 yX0_collectNow yX0_collectNow, Cond.code yX0_collectNow cX0_collectNow 3 (some .int), Cond.fieldLink RX0 62 "Tessera$Row" "size" "I", Cond.fieldLink RX0 68 "Tessera$Copying" "work" "I", Cond.sameField "Tessera$Copying" "Tessera$Store" "work" "I", Cond.fieldLink RX0 71 "Tessera$Copying" "collectings" "I", Cond.sameField "Tessera$Copying" "Tessera$Store" "collectings" "I", Cond.methodLink RX0 52 ⟨"Tessera$Copying", "countHad", "()I"⟩, Cond.sameMethod "Tessera$Copying" "Tessera$Store" "countHad" "()I", Cond.selects RX0 ⟨"Tessera$Copying", "countHad", "()I"⟩ yX7_countHad, Cond.instanceMethod yX7_countHad, Cond.code yX7_countHad cX7_countHad 3 (some .int), Cond.fieldLink RX7 71 "Tessera$Graph" "count" "I", Cond.methodLink RX7 62 ⟨"Tessera$Store", "has", "(I)Z"⟩, Cond.sameMethod "Tessera$Store" "Tessera$Store" "has" "(I)Z", Cond.selects RX0 ⟨"Tessera$Store", "has", "(I)Z"⟩ yX7_has, Cond.instanceMethod yX7_has, Cond.code yX7_has cX7_has 2 (some .boolean), Cond.selects RX1 ⟨"Tessera$Store", "has", "(I)Z"⟩ yX7_has, Cond.selects RX3 ⟨"Tessera$Store", "has", "(I)Z"⟩ yX7_has, Cond.selects RX4 ⟨"Tessera$Store", "has", "(I)Z"⟩ yX7_has, Cond.methodLink RX0 55 yX2_trace, Cond.instanceMethod yX2_trace, Cond.selects RX2 yX2_trace yX2_trace]
def wsL_law0_r12 : List Cond := [Cond.code yX2_trace cX2_trace 4 none, Cond.fieldLink RX2 62 "Tessera$Row" "size" "I", Cond.methodLink RX2 58 yX5_add, Cond.instanceMethod yX5_add, Cond.selects RX5 yX5_add yX5_add, Cond.code yX5_add cX5_add 2 none, Cond.methodLink RX2 65 yX5_get, Cond.instanceMethod yX5_get, Cond.selects RX5 yX5_get yX5_get, Cond.code yX5_get cX5_get 2 (some .int), Cond.methodLink RX2 69 yX2_addNamedBy, Cond.instanceMethod yX2_addNamedBy, Cond.selects RX2 yX2_addNamedBy yX2_addNamedBy, Cond.code yX2_addNamedBy cX2_addNamedBy 4 none, Cond.methodLink RX2 73 yX2_fieldsOf, Cond.instanceMethod yX2_fieldsOf, Cond.selects RX2 yX2_fieldsOf yX2_fieldsOf, Cond.code yX2_fieldsOf cX2_fieldsOf 2 (some .int), Cond.methodLink RX2 76 yX2_nameOf, Cond.instanceMethod yX2_nameOf, Cond.selects RX2 yX2_nameOf yX2_nameOf, Cond.code yX2_nameOf cX2_nameOf 3 (some .int), Cond.methodLink RX0 59 ⟨"Tessera$Copying", "letAllGo", "()V"⟩, Cond.sameMethod "Tessera$Copying" "Tessera$Store" "letAllGo" "()V"]
def wsL_law0_r13 : List Cond := [Cond.selects RX0 ⟨"Tessera$Copying", "letAllGo", "()V"⟩ yX7_letAllGo, Cond.methodLink RX0 65 yX5_get, Cond.methodLink RX0 48 yX0_putBehind, Cond.instanceMethod yX0_putBehind, Cond.selects RX0 yX0_putBehind yX0_putBehind, Cond.code yX0_putBehind cX0_putBehind 2 none, Cond.methodLink RX0 83 ⟨"Tessera$Copying", "put", "(II)V"⟩, Cond.sameMethod "Tessera$Copying" "Tessera$Store" "put" "(II)V", Cond.selects RX0 ⟨"Tessera$Copying", "put", "(II)V"⟩ yX7_put, Cond.instanceMethod yX7_put, Cond.code yX7_put cX7_put 3 none, Cond.methodLink RX7 66 yX2_isThing, Cond.instanceMethod yX2_isThing, Cond.selects RX2 yX2_isThing yX2_isThing, Cond.code yX2_isThing cX2_isThing 2 (some .boolean), Cond.methodLink RX0 45 ⟨"Tessera$Copying", "breakDown", "()V"⟩, Cond.sameMethod "Tessera$Copying" "Tessera$Store" "breakDown" "()V", Cond.selects RX0 ⟨"Tessera$Copying", "breakDown", "()V"⟩ yX7_breakDown, Cond.instanceMethod yX7_breakDown, Cond.code yX7_breakDown cX7_breakDown 1 none, Cond.selects RX1 ⟨"Tessera$Store", "placeNew", "(I)V"⟩ yX1_placeNew, Cond.instanceMethod yX1_placeNew, Cond.code yX1_placeNew cX1_placeNew 3 none, Cond.fieldLink RX1 56 "Tessera$Counting" "graph" "LTessera$Graph;"]
def wsL_law0_r14 : List Cond := [Cond.sameField "Tessera$Counting" "Tessera$Store" "graph" "LTessera$Graph;", Cond.methodLink RX1 41 ⟨"Tessera$Counting", "firstPlaceFor", "(I)I"⟩, Cond.sameMethod "Tessera$Counting" "Tessera$Scattered" "firstPlaceFor" "(I)I", Cond.selects RX1 ⟨"Tessera$Counting", "firstPlaceFor", "(I)I"⟩ yX6_firstPlaceFor, Cond.instanceMethod yX6_firstPlaceFor, Cond.code yX6_firstPlaceFor cX6_firstPlaceFor 5 (some .int), Cond.fieldLink RX6 15 "Tessera$Scattered" "graph" "LTessera$Graph;", Cond.sameField "Tessera$Scattered" "Tessera$Store" "graph" "LTessera$Graph;", Cond.fieldLink RX6 29 "Tessera$Scattered" "room" "I", Cond.sameField "Tessera$Scattered" "Tessera$Store" "room" "I", Cond.methodLink RX6 19 yX2_wordsOf, Cond.methodLink RX6 25 ⟨"Tessera$Scattered", "markTaken", "()V"⟩, Cond.sameMethod "Tessera$Scattered" "Tessera$Scattered" "markTaken" "()V", Cond.selects RX1 ⟨"Tessera$Scattered", "markTaken", "()V"⟩ yX6_markTaken, Cond.instanceMethod yX6_markTaken, Cond.code yX6_markTaken cX6_markTaken 2 none, Cond.fieldLink RX6 39 "Tessera$Graph" "count" "I", Cond.methodLink RX6 42 ⟨"Tessera$Scattered", "has", "(I)Z"⟩, Cond.sameMethod "Tessera$Scattered" "Tessera$Store" "has" "(I)Z", Cond.selects RX1 ⟨"Tessera$Scattered", "has", "(I)Z"⟩ yX7_has, Cond.selects RX3 ⟨"Tessera$Scattered", "has", "(I)Z"⟩ yX7_has, Cond.methodLink RX6 46 ⟨"Tessera$Scattered", "markTakenBy", "(I)V"⟩, Cond.sameMethod "Tessera$Scattered" "Tessera$Scattered" "markTakenBy" "(I)V", Cond.selects RX1 ⟨"Tessera$Scattered", "markTakenBy", "(I)V"⟩ yX6_markTakenBy]
def wsL_law0_r15 : List Cond := [Cond.instanceMethod yX6_markTakenBy, Cond.code yX6_markTakenBy cX6_markTakenBy 5 none, Cond.methodLink RX6 50 ⟨"Tessera$Scattered", "placeOf", "(I)I"⟩, Cond.sameMethod "Tessera$Scattered" "Tessera$Store" "placeOf" "(I)I", Cond.selects RX1 ⟨"Tessera$Scattered", "placeOf", "(I)I"⟩ yX7_placeOf, Cond.instanceMethod yX7_placeOf, Cond.code yX7_placeOf cX7_placeOf 2 (some .int), Cond.selects RX3 ⟨"Tessera$Scattered", "placeOf", "(I)I"⟩ yX7_placeOf, Cond.selects RX3 ⟨"Tessera$Scattered", "markTakenBy", "(I)V"⟩ yX6_markTakenBy, Cond.selects RX3 ⟨"Tessera$Scattered", "markTaken", "()V"⟩ yX6_markTaken, Cond.methodLink RX1 45 yX1_collectNow, Cond.instanceMethod yX1_collectNow, Cond.selects RX1 yX1_collectNow yX1_collectNow, Cond.code yX1_collectNow cX1_collectNow 3 (some .int), Cond.fieldLink RX1 69 "Tessera$Counting" "work" "I", Cond.sameField "Tessera$Counting" "Tessera$Store" "work" "I", Cond.fieldLink RX1 72 "Tessera$Row" "size" "I", Cond.fieldLink RX1 85 "Tessera$Counting" "collectings" "I", Cond.sameField "Tessera$Counting" "Tessera$Store" "collectings" "I", Cond.methodLink RX1 66 yX1_findRings, Cond.instanceMethod yX1_findRings, Cond.selects RX1 yX1_findRings yX1_findRings, Cond.code yX1_findRings cX1_findRings 2 none, Cond.fieldLink RX1 113 "Tessera$Graph" "count" "I"]
def wsL_law0_r16 : List Cond := [Cond.methodLink RX1 94 yX5_empty, Cond.methodLink RX1 116 yX1_isSuspect, Cond.instanceMethod yX1_isSuspect, Cond.selects RX1 yX1_isSuspect yX1_isSuspect, Cond.code yX1_isSuspect cX1_isSuspect 2 (some .boolean), Cond.methodLink RX1 88 ⟨"Tessera$Counting", "has", "(I)Z"⟩, Cond.sameMethod "Tessera$Counting" "Tessera$Store" "has" "(I)Z", Cond.selects RX1 ⟨"Tessera$Counting", "has", "(I)Z"⟩ yX7_has, Cond.methodLink RX1 110 yX5_add, Cond.methodLink RX1 75 yX5_get, Cond.methodLink RX1 119 yX2_addNamedBy, Cond.methodLink RX1 123 yX1_countNamedInside, Cond.instanceMethod yX1_countNamedInside, Cond.selects RX1 yX1_countNamedInside yX1_countNamedInside, Cond.code yX1_countNamedInside cX1_countNamedInside 5 none, Cond.methodLink RX1 129 yJ7_fill_53178, Cond.methodLink RX1 100 yX2_fieldsOf, Cond.methodLink RX1 103 yX2_nameOf, Cond.methodLink RX1 60 yX2_isThing, Cond.methodLink RX1 126 yX1_findLeftOut, Cond.instanceMethod yX1_findLeftOut, Cond.selects RX1 yX1_findLeftOut yX1_findLeftOut, Cond.code yX1_findLeftOut cX1_findLeftOut 3 none, Cond.methodLink RX1 78 yX5_holds]
def wsL_law0_r17 : List Cond := [Cond.instanceMethod yX5_holds, Cond.selects RX5 yX5_holds yX5_holds, Cond.code yX5_holds cX5_holds 2 (some .boolean), Cond.methodLink RX1 81 yX1_letRingGo, Cond.instanceMethod yX1_letRingGo, Cond.selects RX1 yX1_letRingGo yX1_letRingGo, Cond.code yX1_letRingGo cX1_letRingGo 4 none, Cond.methodLink RX1 107 ⟨"Tessera$Counting", "letGo", "(I)V"⟩, Cond.sameMethod "Tessera$Counting" "Tessera$Store" "letGo" "(I)V", Cond.selects RX1 ⟨"Tessera$Counting", "letGo", "(I)V"⟩ yX7_letGo, Cond.instanceMethod yX7_letGo, Cond.code yX7_letGo cX7_letGo 2 none, Cond.methodLink RX1 49 ⟨"Tessera$Counting", "breakDown", "()V"⟩, Cond.sameMethod "Tessera$Counting" "Tessera$Store" "breakDown" "()V", Cond.selects RX1 ⟨"Tessera$Counting", "breakDown", "()V"⟩ yX7_breakDown, Cond.methodLink RX1 52 ⟨"Tessera$Counting", "put", "(II)V"⟩, Cond.sameMethod "Tessera$Counting" "Tessera$Store" "put" "(II)V", Cond.selects RX1 ⟨"Tessera$Counting", "put", "(II)V"⟩ yX7_put, Cond.selects RX3 ⟨"Tessera$Store", "placeNew", "(I)V"⟩ yX3_placeNew, Cond.instanceMethod yX3_placeNew, Cond.code yX3_placeNew cX3_placeNew 3 none, Cond.methodLink RX3 38 yX3_workAheadOfPlacing, Cond.instanceMethod yX3_workAheadOfPlacing, Cond.selects RX3 yX3_workAheadOfPlacing yX3_workAheadOfPlacing]
def wsL_law0_r18 : List Cond := [Cond.code yX3_workAheadOfPlacing cX3_workAheadOfPlacing 2 none, Cond.fieldLink RX3 109 "Tessera$Marking" "room" "I", Cond.sameField "Tessera$Marking" "Tessera$Store" "room" "I", Cond.methodLink RX3 112 ⟨"Tessera$Marking", "wordsHad", "()I"⟩, Cond.sameMethod "Tessera$Marking" "Tessera$Store" "wordsHad" "()I", Cond.selects RX3 ⟨"Tessera$Marking", "wordsHad", "()I"⟩ yX7_wordsHad, Cond.instanceMethod yX7_wordsHad, Cond.code yX7_wordsHad cX7_wordsHad 3 (some .int), Cond.methodLink RX7 74 yX2_wordsOf, Cond.methodLink RX3 62 yX3_beginToMark, Cond.instanceMethod yX3_beginToMark, Cond.selects RX3 yX3_beginToMark yX3_beginToMark, Cond.code yX3_beginToMark cX3_beginToMark 2 none, Cond.fieldLink RX3 84 "Tessera$Marking" "graph" "LTessera$Graph;", Cond.sameField "Tessera$Marking" "Tessera$Store" "graph" "LTessera$Graph;", Cond.methodLink RX3 115 yX2_rootAt, Cond.instanceMethod yX2_rootAt, Cond.selects RX2 yX2_rootAt yX2_rootAt, Cond.code yX2_rootAt cX2_rootAt 2 (some .int), Cond.methodLink RX3 77 yX3_becomeGrey, Cond.instanceMethod yX3_becomeGrey, Cond.selects RX3 yX3_becomeGrey yX3_becomeGrey, Cond.code yX3_becomeGrey cX3_becomeGrey 2 none, Cond.methodLink RX3 74 yX3_colourOf]
def wsL_law0_r19 : List Cond := [Cond.instanceMethod yX3_colourOf, Cond.selects RX3 yX3_colourOf yX3_colourOf, Cond.code yX3_colourOf cX3_colourOf 2 (some .int), Cond.methodLink RX3 103 ⟨"Tessera$Marking", "has", "(I)Z"⟩, Cond.sameMethod "Tessera$Marking" "Tessera$Store" "has" "(I)Z", Cond.selects RX3 ⟨"Tessera$Marking", "has", "(I)Z"⟩ yX7_has, Cond.methodLink RX3 106 yX2_isThing, Cond.methodLink RX3 56 yX3_paint, Cond.instanceMethod yX3_paint, Cond.selects RX3 yX3_paint yX3_paint, Cond.code yX3_paint cX3_paint 3 none, Cond.methodLink RX3 118 yX5_add, Cond.methodLink RX3 65 yX3_step, Cond.instanceMethod yX3_step, Cond.selects RX3 yX3_step yX3_step, Cond.code yX3_step cX3_step 3 none, Cond.fieldLink RX3 71 "Tessera$Row" "size" "I", Cond.fieldLink RX3 131 "Tessera$Marking" "work" "I", Cond.sameField "Tessera$Marking" "Tessera$Store" "work" "I", Cond.methodLink RX3 121 yX3_sweep, Cond.instanceMethod yX3_sweep, Cond.selects RX3 yX3_sweep yX3_sweep, Cond.code yX3_sweep cX3_sweep 2 none, Cond.fieldLink RX3 88 "Tessera$Graph" "count" "I"]
def wsL_law0_r20 : List Cond := [Cond.fieldLink RX3 137 "Tessera$Marking" "collectings" "I", Cond.sameField "Tessera$Marking" "Tessera$Store" "collectings" "I", Cond.methodLink RX3 59 ⟨"Tessera$Marking", "countHad", "()I"⟩, Cond.sameMethod "Tessera$Marking" "Tessera$Store" "countHad" "()I", Cond.selects RX3 ⟨"Tessera$Marking", "countHad", "()I"⟩ yX7_countHad, Cond.methodLink RX3 134 ⟨"Tessera$Marking", "letGo", "(I)V"⟩, Cond.sameMethod "Tessera$Marking" "Tessera$Store" "letGo" "(I)V", Cond.selects RX3 ⟨"Tessera$Marking", "letGo", "(I)V"⟩ yX7_letGo, Cond.methodLink RX3 97 yX5_get, Cond.methodLink RX3 124 yX2_fieldsOf, Cond.methodLink RX3 127 yX2_nameOf, Cond.methodLink RX3 100 yX2_wordsOf, Cond.methodLink RX3 41 ⟨"Tessera$Marking", "firstPlaceFor", "(I)I"⟩, Cond.sameMethod "Tessera$Marking" "Tessera$Scattered" "firstPlaceFor" "(I)I", Cond.selects RX3 ⟨"Tessera$Marking", "firstPlaceFor", "(I)I"⟩ yX6_firstPlaceFor, Cond.methodLink RX3 45 yX3_collectNow, Cond.instanceMethod yX3_collectNow, Cond.selects RX3 yX3_collectNow yX3_collectNow, Cond.code yX3_collectNow cX3_collectNow 3 (some .int), Cond.methodLink RX3 49 ⟨"Tessera$Marking", "breakDown", "()V"⟩, Cond.sameMethod "Tessera$Marking" "Tessera$Store" "breakDown" "()V", Cond.selects RX3 ⟨"Tessera$Marking", "breakDown", "()V"⟩ yX7_breakDown, Cond.methodLink RX3 52 ⟨"Tessera$Marking", "put", "(II)V"⟩, Cond.sameMethod "Tessera$Marking" "Tessera$Store" "put" "(II)V"]
def wsL_law0_r21 : List Cond := [Cond.selects RX3 ⟨"Tessera$Marking", "put", "(II)V"⟩ yX7_put, Cond.selects RX4 ⟨"Tessera$Store", "placeNew", "(I)V"⟩ yX4_placeNew, Cond.instanceMethod yX4_placeNew, Cond.code yX4_placeNew cX4_placeNew 3 none, Cond.fieldLink RX4 49 "Tessera$Nursery" "graph" "LTessera$Graph;", Cond.sameField "Tessera$Nursery" "Tessera$Store" "graph" "LTessera$Graph;", Cond.fieldLink RX4 66 "Tessera$Nursery" "broken" "Z", Cond.sameField "Tessera$Nursery" "Tessera$Store" "broken" "Z", Cond.methodLink RX4 53 yX2_wordsOf, Cond.methodLink RX4 59 yX4_freeTogether, Cond.instanceMethod yX4_freeTogether, Cond.selects RX4 yX4_freeTogether yX4_freeTogether, Cond.code yX4_freeTogether cX4_freeTogether 1 (some .int), Cond.methodLink RX4 63 yX4_cleanUpYoung, Cond.instanceMethod yX4_cleanUpYoung, Cond.selects RX4 yX4_cleanUpYoung yX4_cleanUpYoung, Cond.code yX4_cleanUpYoung cX4_cleanUpYoung 3 (some .int), Cond.fieldLink RX4 96 "Tessera$Row" "size" "I", Cond.methodLink RX4 112 yX4_wordsGrown, Cond.instanceMethod yX4_wordsGrown, Cond.selects RX4 yX4_wordsGrown yX4_wordsGrown, Cond.code yX4_wordsGrown cX4_wordsGrown 3 (some .int), Cond.methodLink RX4 99 yX5_get, Cond.methodLink RX4 137 yX4_isGrown]
def wsL_law0_r22 : List Cond := [Cond.instanceMethod yX4_isGrown, Cond.selects RX4 yX4_isGrown yX4_isGrown, Cond.code yX4_isGrown cX4_isGrown 2 (some .boolean), Cond.methodLink RX4 147 yX2_isThing, Cond.methodLink RX4 70 yX4_collectNow, Cond.instanceMethod yX4_collectNow, Cond.selects RX4 yX4_collectNow yX4_collectNow, Cond.code yX4_collectNow cX4_collectNow 3 (some .int), Cond.fieldLink RX4 106 "Tessera$Nursery" "work" "I", Cond.sameField "Tessera$Nursery" "Tessera$Store" "work" "I", Cond.fieldLink RX4 109 "Tessera$Nursery" "collectings" "I", Cond.sameField "Tessera$Nursery" "Tessera$Store" "collectings" "I", Cond.methodLink RX4 77 yX4_greatFits, Cond.instanceMethod yX4_greatFits, Cond.selects RX4 yX4_greatFits yX4_greatFits, Cond.code yX4_greatFits cX4_greatFits 1 (some .boolean), Cond.methodLink RX4 127 ⟨"Tessera$Nursery", "wordsReached", "()I"⟩, Cond.sameMethod "Tessera$Nursery" "Tessera$Store" "wordsReached" "()I", Cond.selects RX4 ⟨"Tessera$Nursery", "wordsReached", "()I"⟩ yX7_wordsReached, Cond.instanceMethod yX7_wordsReached, Cond.code yX7_wordsReached cX7_wordsReached 3 (some .int), Cond.methodLink RX7 78 yX2_isReached, Cond.instanceMethod yX2_isReached, Cond.selects RX2 yX2_isReached yX2_isReached]
def wsL_law0_r23 : List Cond := [Cond.code yX2_isReached cX2_isReached 2 (some .boolean), Cond.methodLink RX4 81 ⟨"Tessera$Nursery", "breakDown", "()V"⟩, Cond.sameMethod "Tessera$Nursery" "Tessera$Store" "breakDown" "()V", Cond.selects RX4 ⟨"Tessera$Nursery", "breakDown", "()V"⟩ yX7_breakDown, Cond.methodLink RX4 84 ⟨"Tessera$Nursery", "countHad", "()I"⟩, Cond.sameMethod "Tessera$Nursery" "Tessera$Store" "countHad" "()I", Cond.selects RX4 ⟨"Tessera$Nursery", "countHad", "()I"⟩ yX7_countHad, Cond.methodLink RX4 87 yX4_findReached, Cond.instanceMethod yX4_findReached, Cond.selects RX4 yX4_findReached yX4_findReached, Cond.code yX4_findReached cX4_findReached 1 none, Cond.methodLink RX4 150 yX4_addReached, Cond.instanceMethod yX4_addReached, Cond.selects RX4 yX4_addReached yX4_addReached, Cond.code yX4_addReached cX4_addReached 3 none, Cond.methodLink RX4 154 yX2_isReached, Cond.methodLink RX4 157 yX5_add, Cond.methodLink RX4 90 ⟨"Tessera$Nursery", "letAllGo", "()V"⟩, Cond.sameMethod "Tessera$Nursery" "Tessera$Store" "letAllGo" "()V", Cond.selects RX4 ⟨"Tessera$Nursery", "letAllGo", "()V"⟩ yX7_letAllGo, Cond.methodLink RX4 93 yX4_forgetThings, Cond.selects RX4 yX4_forgetThings yX4_forgetThings, Cond.methodLink RX4 102 yX4_putOld, Cond.instanceMethod yX4_putOld]
def wsL_law0_r24 : List Cond := [Cond.selects RX4 yX4_putOld yX4_putOld, Cond.code yX4_putOld cX4_putOld 2 none, Cond.methodLink RX4 172 ⟨"Tessera$Nursery", "put", "(II)V"⟩, Cond.sameMethod "Tessera$Nursery" "Tessera$Store" "put" "(II)V", Cond.selects RX4 ⟨"Tessera$Nursery", "put", "(II)V"⟩ yX7_put, Cond.methodLink RX4 115 yX4_findYoung, Cond.instanceMethod yX4_findYoung, Cond.selects RX4 yX4_findYoung yX4_findYoung, Cond.code yX4_findYoung cX4_findYoung 2 none, Cond.fieldLink RX4 166 "Tessera$Graph" "count" "I", Cond.methodLink RX4 160 yX2_rootAt, Cond.methodLink RX4 163 yX4_addYoung, Cond.instanceMethod yX4_addYoung, Cond.selects RX4 yX4_addYoung yX4_addYoung, Cond.code yX4_addYoung cX4_addYoung 2 none, Cond.methodLink RX4 134 yX5_holds, Cond.methodLink RX4 169 yX4_addYoungNamedBy, Cond.instanceMethod yX4_addYoungNamedBy, Cond.selects RX4 yX4_addYoungNamedBy yX4_addYoungNamedBy, Cond.code yX4_addYoungNamedBy cX4_addYoungNamedBy 3 none, Cond.methodLink RX4 140 yX2_fieldsOf, Cond.methodLink RX4 143 yX2_nameOf, Cond.methodLink RX4 118 ⟨"Tessera$Nursery", "letGo", "(I)V"⟩, Cond.sameMethod "Tessera$Nursery" "Tessera$Store" "letGo" "(I)V"]
def wsL_law0_r25 : List Cond := [Cond.selects RX4 ⟨"Tessera$Nursery", "letGo", "(I)V"⟩ yX7_letGo, Cond.methodLink RX4 121 yX4_moveFound, Cond.instanceMethod yX4_moveFound, Cond.selects RX4 yX4_moveFound yX4_moveFound, Cond.code yX4_moveFound cX4_moveFound 3 none, Cond.methodLink RX4 73 yX4_putYoung, Cond.instanceMethod yX4_putYoung, Cond.selects RX4 yX4_putYoung yX4_putYoung, Cond.code yX4_putYoung cX4_putYoung 3 none, Cond.methodLink RX8 92 yX8_nameByRoot, Cond.instanceMethod yX8_nameByRoot, Cond.selects RX8 yX8_nameByRoot yX8_nameByRoot, Cond.code yX8_nameByRoot cX8_nameByRoot 4 (some .int), Cond.methodLink RX8 279 yX2_rootAt, Cond.methodLink RX8 282 yX2_nameByRoot, Cond.instanceMethod yX2_nameByRoot, Cond.selects RX2 yX2_nameByRoot yX2_nameByRoot, Cond.code yX2_nameByRoot cX2_nameByRoot 3 none, Cond.methodLink RX2 55 yX2_measure, Cond.instanceMethod yX2_measure, Cond.selects RX2 yX2_measure yX2_measure, Cond.code yX2_measure cX2_measure 2 none, Cond.methodLink RX2 80 yX2_trace, Cond.methodLink RX2 47 yX2_isThing]
def wsL_law0_r26 : List Cond := [Cond.methodLink RX2 84 yX2_measureNamedBy, Cond.instanceMethod yX2_measureNamedBy, Cond.selects RX2 yX2_measureNamedBy yX2_measureNamedBy, Cond.code yX2_measureNamedBy cX2_measureNamedBy 5 none, Cond.methodLink RX2 87 yX2_distanceOf, Cond.instanceMethod yX2_distanceOf, Cond.selects RX2 yX2_distanceOf yX2_distanceOf, Cond.code yX2_distanceOf cX2_distanceOf 2 (some .int), Cond.methodLink RX8 122 yX8_tellStores, Cond.instanceMethod yX8_tellStores, Cond.selects RX8 yX8_tellStores yX8_tellStores, Cond.code yX8_tellStores cX8_tellStores 5 none, Cond.methodLink RX8 284 ⟨"Tessera$Store", "learnNaming", "(III)V"⟩, Cond.sameMethod "Tessera$Store" "Tessera$Store" "learnNaming" "(III)V", Cond.selects RX0 ⟨"Tessera$Store", "learnNaming", "(III)V"⟩ yX7_learnNaming, Cond.instanceMethod yX7_learnNaming, Cond.code yX7_learnNaming cX7_learnNaming 4 none, Cond.instanceMethod ⟨"Tessera$Store", "learnNaming", "(III)V"⟩, Cond.selects RX1 ⟨"Tessera$Store", "learnNaming", "(III)V"⟩ yX1_learnNaming, Cond.instanceMethod yX1_learnNaming, Cond.code yX1_learnNaming cX1_learnNaming 4 none, Cond.methodLink RX1 91 yX1_lower, Cond.instanceMethod yX1_lower, Cond.selects RX1 yX1_lower yX1_lower]
def wsL_law0_r27 : List Cond := [Cond.code yX1_lower cX1_lower 5 none, Cond.methodLink RX1 97 yX1_lowerOnce, Cond.instanceMethod yX1_lowerOnce, Cond.selects RX1 yX1_lowerOnce yX1_lowerOnce, Cond.code yX1_lowerOnce cX1_lowerOnce 2 none, Cond.selects RX3 ⟨"Tessera$Store", "learnNaming", "(III)V"⟩ yX3_learnNaming, Cond.instanceMethod yX3_learnNaming, Cond.code yX3_learnNaming cX3_learnNaming 4 none, Cond.selects RX4 ⟨"Tessera$Store", "learnNaming", "(III)V"⟩ yX7_learnNaming, Cond.methodLink RX8 96 yX8_closePauses, Cond.instanceMethod yX8_closePauses, Cond.selects RX8 yX8_closePauses yX8_closePauses, Cond.code yX8_closePauses cX8_closePauses 2 none, Cond.methodLink RX8 155 ⟨"Tessera$Store", "closePause", "()V"⟩, Cond.sameMethod "Tessera$Store" "Tessera$Store" "closePause" "()V", Cond.selects RX0 ⟨"Tessera$Store", "closePause", "()V"⟩ yX7_closePause, Cond.instanceMethod yX7_closePause, Cond.code yX7_closePause cX7_closePause 1 none, Cond.methodLink RX7 56 Lib.Math.max.name, Cond.static Lib.Math.max.name, Cond.initialized "java/lang/Math", Cond.code Lib.Math.max.name Lib.Math.max.code 2 (some .int), Cond.selects RX1 ⟨"Tessera$Store", "closePause", "()V"⟩ yX7_closePause, Cond.selects RX3 ⟨"Tessera$Store", "closePause", "()V"⟩ yX7_closePause]
def wsL_law0_r28 : List Cond := [Cond.selects RX4 ⟨"Tessera$Store", "closePause", "()V"⟩ yX7_closePause, Cond.methodLink RL 33 yX8_root, Cond.instanceMethod yX8_root, Cond.selects RX8 yX8_root yX8_root, Cond.code yX8_root cX8_root 4 (some .int), Cond.methodLink RX8 112 yX8_checkNameable, Cond.instanceMethod yX8_checkNameable, Cond.selects RX8 yX8_checkNameable yX8_checkNameable, Cond.code yX8_checkNameable cX8_checkNameable 2 none, Cond.methodLink RX8 99 yX2_isReached, Cond.methodLink RL 36 yX8_ofThing, Cond.instanceMethod yX8_ofThing, Cond.selects RX8 yX8_ofThing yX8_ofThing, Cond.code yX8_ofThing cX8_ofThing 3 (some .int), Cond.methodLink RX8 125 yX8_checkThing, Cond.instanceMethod yX8_checkThing, Cond.selects RX8 yX8_checkThing yX8_checkThing, Cond.code yX8_checkThing cX8_checkThing 2 none, Cond.methodLink RX8 266 yX2_isThing, Cond.methodLink RX8 128 yX8_checkWhat, Cond.static yX8_checkWhat, Cond.code yX8_checkWhat cX8_checkWhat 2 none, Cond.methodLink RX8 132 yX2_fieldsOf, Cond.methodLink RX8 135 yX8_asNumber]
def wsL_law0_r29 : List Cond := [Cond.static yX8_asNumber, Cond.code yX8_asNumber cX8_asNumber 1 (some .int), Cond.methodLink RX8 139 yX2_distanceOf, Cond.methodLink RL 39 yX8_set, Cond.instanceMethod yX8_set, Cond.selects RX8 yX8_set yX8_set, Cond.code yX8_set cX8_set 5 (some .int), Cond.methodLink RX8 103 yX2_hasField, Cond.instanceMethod yX2_hasField, Cond.selects RX2 yX2_hasField yX2_hasField, Cond.code yX2_hasField cX2_hasField 3 (some .boolean), Cond.methodLink RX8 115 yX2_nameOf, Cond.methodLink RX8 118 yX2_nameByField, Cond.instanceMethod yX2_nameByField, Cond.selects RX2 yX2_nameByField yX2_nameByField, Cond.code yX2_nameByField cX2_nameByField 4 none, Cond.methodLink RX2 51 yX2_hasField, Cond.methodLink RL 43 yX8_named, Cond.instanceMethod yX8_named, Cond.selects RX8 yX8_named yX8_named, Cond.code yX8_named cX8_named 3 (some .int), Cond.methodLink RL 46 yX8_steps, Cond.instanceMethod yX8_steps, Cond.selects RX8 yX8_steps yX8_steps]
def wsL_law0_r30 : List Cond := [Cond.code yX8_steps cX8_steps 3 (some .int), Cond.methodLink RX8 165 ⟨"Tessera$Marking", "openPause", "()V"⟩, Cond.sameMethod "Tessera$Marking" "Tessera$Store" "openPause" "()V", Cond.selects RX3 ⟨"Tessera$Marking", "openPause", "()V"⟩ yX7_openPause, Cond.methodLink RX8 166 yX3_goOn, Cond.instanceMethod yX3_goOn, Cond.selects RX3 yX3_goOn yX3_goOn, Cond.code yX3_goOn cX3_goOn 3 (some .int), Cond.fieldLink RX3 68 "Tessera$Marking" "broken" "Z", Cond.sameField "Tessera$Marking" "Tessera$Store" "broken" "Z", Cond.methodLink RX8 169 ⟨"Tessera$Marking", "closePause", "()V"⟩, Cond.sameMethod "Tessera$Marking" "Tessera$Store" "closePause" "()V", Cond.selects RX3 ⟨"Tessera$Marking", "closePause", "()V"⟩ yX7_closePause, Cond.methodLink RL 49 yX8_told, Cond.instanceMethod yX8_told, Cond.selects RX8 yX8_told yX8_told, Cond.code yX8_told cX8_told 4 (some .int), Cond.fieldLink RX8 182 "Tessera$Store" "work" "I", Cond.fieldLink RX8 185 "Tessera$Store" "longestPause" "I", Cond.fieldLink RX8 191 "Tessera$Store" "collectings" "I", Cond.methodLink RX8 144 yX8_storeOf, Cond.instanceMethod yX8_storeOf, Cond.selects RX8 yX8_storeOf yX8_storeOf, Cond.code yX8_storeOf cX8_storeOf 2 (some (.object "Tessera$Store"))]
def wsL_law0_r31 : List Cond := [Cond.methodLink RX8 173 ⟨"Tessera$Store", "countHad", "()I"⟩, Cond.sameMethod "Tessera$Store" "Tessera$Store" "countHad" "()I", Cond.selects RX0 ⟨"Tessera$Store", "countHad", "()I"⟩ yX7_countHad, Cond.selects RX1 ⟨"Tessera$Store", "countHad", "()I"⟩ yX7_countHad, Cond.selects RX3 ⟨"Tessera$Store", "countHad", "()I"⟩ yX7_countHad, Cond.selects RX4 ⟨"Tessera$Store", "countHad", "()I"⟩ yX7_countHad, Cond.methodLink RX8 176 ⟨"Tessera$Store", "wordsHad", "()I"⟩, Cond.sameMethod "Tessera$Store" "Tessera$Store" "wordsHad" "()I", Cond.selects RX0 ⟨"Tessera$Store", "wordsHad", "()I"⟩ yX7_wordsHad, Cond.selects RX1 ⟨"Tessera$Store", "wordsHad", "()I"⟩ yX7_wordsHad, Cond.selects RX3 ⟨"Tessera$Store", "wordsHad", "()I"⟩ yX7_wordsHad, Cond.selects RX4 ⟨"Tessera$Store", "wordsHad", "()I"⟩ yX7_wordsHad, Cond.methodLink RX8 179 ⟨"Tessera$Store", "countUnreached", "()I"⟩, Cond.sameMethod "Tessera$Store" "Tessera$Store" "countUnreached" "()I", Cond.selects RX0 ⟨"Tessera$Store", "countUnreached", "()I"⟩ yX7_countUnreached, Cond.instanceMethod yX7_countUnreached, Cond.code yX7_countUnreached cX7_countUnreached 3 (some .int), Cond.selects RX1 ⟨"Tessera$Store", "countUnreached", "()I"⟩ yX7_countUnreached, Cond.selects RX3 ⟨"Tessera$Store", "countUnreached", "()I"⟩ yX7_countUnreached, Cond.selects RX4 ⟨"Tessera$Store", "countUnreached", "()I"⟩ yX7_countUnreached, Cond.methodLink RX8 188 ⟨"Tessera$Store", "freeTogether", "()I"⟩, Cond.sameMethod "Tessera$Store" "Tessera$Store" "freeTogether" "()I", Cond.selects RX0 ⟨"Tessera$Store", "freeTogether", "()I"⟩ yX0_freeTogether, Cond.selects RX1 ⟨"Tessera$Store", "freeTogether", "()I"⟩ yX6_freeTogether]
def wsL_law0_r32 : List Cond := [Cond.instanceMethod yX6_freeTogether, Cond.code yX6_freeTogether cX6_freeTogether 4 (some .int), Cond.methodLink RX6 33 Lib.Math.max.name, Cond.selects RX3 ⟨"Tessera$Store", "freeTogether", "()I"⟩ yX6_freeTogether, Cond.selects RX4 ⟨"Tessera$Store", "freeTogether", "()I"⟩ yX4_freeTogether, Cond.methodLink RL 52 yX8_at, Cond.instanceMethod yX8_at, Cond.selects RX8 yX8_at yX8_at, Cond.code yX8_at cX8_at 4 (some .int), Cond.methodLink RX8 170 ⟨"Tessera$Store", "placeOf", "(I)I"⟩, Cond.sameMethod "Tessera$Store" "Tessera$Store" "placeOf" "(I)I", Cond.selects RX0 ⟨"Tessera$Store", "placeOf", "(I)I"⟩ yX7_placeOf, Cond.selects RX1 ⟨"Tessera$Store", "placeOf", "(I)I"⟩ yX7_placeOf, Cond.selects RX3 ⟨"Tessera$Store", "placeOf", "(I)I"⟩ yX7_placeOf, Cond.selects RX4 ⟨"Tessera$Store", "placeOf", "(I)I"⟩ yX7_placeOf, Cond.methodLink RL 55 yX8_kept, Cond.instanceMethod yX8_kept, Cond.selects RX8 yX8_kept yX8_kept, Cond.code yX8_kept cX8_kept 3 (some .int), Cond.methodLink RX8 194 yX4_ageOf, Cond.instanceMethod yX4_ageOf, Cond.selects RX4 yX4_ageOf yX4_ageOf, Cond.code yX4_ageOf cX4_ageOf 2 (some .int), Cond.methodLink RX4 130 ⟨"Tessera$Nursery", "has", "(I)Z"⟩]
def wsL_law0_r33 : List Cond := [Cond.sameMethod "Tessera$Nursery" "Tessera$Store" "has" "(I)Z", Cond.selects RX4 ⟨"Tessera$Nursery", "has", "(I)Z"⟩ yX7_has, Cond.methodLink RX8 197 ⟨"Tessera$Nursery", "has", "(I)Z"⟩, Cond.methodLink RX8 200 yX4_isRemembered, Cond.instanceMethod yX4_isRemembered, Cond.selects RX4 yX4_isRemembered yX4_isRemembered, Cond.code yX4_isRemembered cX4_isRemembered 3 (some .boolean), Cond.methodLink RX8 203 yX3_colourOf, Cond.methodLink RX8 206 yX1_countOf, Cond.instanceMethod yX1_countOf, Cond.selects RX1 yX1_countOf yX1_countOf, Cond.code yX1_countOf cX1_countOf 2 (some .int), Cond.methodLink RX8 209 ⟨"Tessera$Counting", "has", "(I)Z"⟩, Cond.methodLink RX8 210 yX1_isSuspect, Cond.methodLink RL 58 yX8_digest, Cond.instanceMethod yX8_digest, Cond.selects RX8 yX8_digest yX8_digest, Cond.code yX8_digest cX8_digest 5 (some .long), Cond.constantLong RX8 234 (58088), Cond.methodLink RX8 236 yX8_mixed, Cond.static yX8_mixed, Cond.code yX8_mixed cX8_mixed 3 (some .long), Cond.constantLong RX8 264 (31), Cond.methodLink RX8 240 yX8_mixedThing]
def wsL_law0_r34 : List Cond := [Cond.instanceMethod yX8_mixedThing, Cond.selects RX8 yX8_mixedThing yX8_mixedThing, Cond.code yX8_mixedThing cX8_mixedThing 7 (some .long), Cond.methodLink RX8 258 yX8_ofThing, Cond.methodLink RX8 261 yX8_kept, Cond.methodLink RX8 243 yX8_told, Cond.methodLink RX8 246 yX8_wouldGo, Cond.instanceMethod yX8_wouldGo, Cond.selects RX8 yX8_wouldGo yX8_wouldGo, Cond.code yX8_wouldGo cX8_wouldGo 3 (some .int), Cond.methodLink RX8 225 ⟨"Tessera$Store", "countToGo", "()I"⟩, Cond.sameMethod "Tessera$Store" "Tessera$Store" "countToGo" "()I", Cond.selects RX0 ⟨"Tessera$Store", "countToGo", "()I"⟩ yX0_countToGo, Cond.instanceMethod yX0_countToGo, Cond.code yX0_countToGo cX0_countToGo 1 (some .int), Cond.methodLink RX0 74 ⟨"Tessera$Copying", "countUnreached", "()I"⟩, Cond.sameMethod "Tessera$Copying" "Tessera$Store" "countUnreached" "()I", Cond.selects RX0 ⟨"Tessera$Copying", "countUnreached", "()I"⟩ yX7_countUnreached, Cond.selects RX1 ⟨"Tessera$Store", "countToGo", "()I"⟩ yX1_countToGo, Cond.instanceMethod yX1_countToGo, Cond.code yX1_countToGo cX1_countToGo 1 (some .int), Cond.selects RX3 ⟨"Tessera$Store", "countToGo", "()I"⟩ yX3_countToGo, Cond.instanceMethod yX3_countToGo, Cond.code yX3_countToGo cX3_countToGo 3 (some .int)]
def wsL_law0_r35 : List Cond := [Cond.methodLink RX3 81 yX3_foresee, Cond.instanceMethod yX3_foresee, Cond.selects RX3 yX3_foresee yX3_foresee, Cond.code yX3_foresee cX3_foresee 4 none, Cond.methodLink RX3 140 yX3_foreseeIfWhite, Cond.instanceMethod yX3_foreseeIfWhite, Cond.selects RX3 yX3_foreseeIfWhite yX3_foreseeIfWhite, Cond.code yX3_foreseeIfWhite cX3_foreseeIfWhite 2 none, Cond.methodLink RX3 93 yX5_holds, Cond.selects RX4 ⟨"Tessera$Store", "countToGo", "()I"⟩ yX4_countToGo, Cond.instanceMethod yX4_countToGo, Cond.code yX4_countToGo cX4_countToGo 1 (some .int), Cond.methodLink RX4 124 ⟨"Tessera$Nursery", "countUnreached", "()I"⟩, Cond.sameMethod "Tessera$Nursery" "Tessera$Store" "countUnreached" "()I", Cond.selects RX4 ⟨"Tessera$Nursery", "countUnreached", "()I"⟩ yX7_countUnreached, Cond.methodLink RX8 249 yX8_wouldWork, Cond.instanceMethod yX8_wouldWork, Cond.selects RX8 yX8_wouldWork yX8_wouldWork, Cond.code yX8_wouldWork cX8_wouldWork 3 (some .int), Cond.methodLink RX8 228 ⟨"Tessera$Store", "workToDo", "()I"⟩, Cond.sameMethod "Tessera$Store" "Tessera$Store" "workToDo" "()I", Cond.selects RX0 ⟨"Tessera$Store", "workToDo", "()I"⟩ yX0_workToDo, Cond.instanceMethod yX0_workToDo, Cond.code yX0_workToDo cX0_workToDo 1 (some .int)]
def wsL_law0_r36 : List Cond := [Cond.methodLink RX0 77 ⟨"Tessera$Copying", "wordsReached", "()I"⟩, Cond.sameMethod "Tessera$Copying" "Tessera$Store" "wordsReached" "()I", Cond.selects RX0 ⟨"Tessera$Copying", "wordsReached", "()I"⟩ yX7_wordsReached, Cond.selects RX1 ⟨"Tessera$Store", "workToDo", "()I"⟩ yX1_workToDo, Cond.instanceMethod yX1_workToDo, Cond.code yX1_workToDo cX1_workToDo 1 (some .int), Cond.selects RX3 ⟨"Tessera$Store", "workToDo", "()I"⟩ yX3_workToDo, Cond.instanceMethod yX3_workToDo, Cond.code yX3_workToDo cX3_workToDo 3 (some .int), Cond.selects RX4 ⟨"Tessera$Store", "workToDo", "()I"⟩ yX4_workToDo, Cond.instanceMethod yX4_workToDo, Cond.code yX4_workToDo cX4_workToDo 1 (some .int), Cond.methodLink RX8 252 yX8_more, Cond.instanceMethod yX8_more, Cond.selects RX8 yX8_more yX8_more, Cond.code yX8_more cX8_more 2 (some .int), Cond.fieldLink RX8 213 "Tessera$Nursery" "smallOnes" "I", Cond.fieldLink RX8 216 "Tessera$Nursery" "wordsGrownOld" "I", Cond.fieldLink RX8 219 "Tessera$Marking" "marks" "Z", Cond.fieldLink RX8 222 "Tessera$Counting" "goneByRings" "I", Cond.methodLink RX8 255 yX8_wouldLose, Cond.instanceMethod yX8_wouldLose, Cond.selects RX8 yX8_wouldLose yX8_wouldLose, Cond.code yX8_wouldLose cX8_wouldLose 2 (some .int)]
def wsL_law0_r37 : List Cond := [Cond.methodLink RX8 231 yX2_countLostWithout, Cond.instanceMethod yX2_countLostWithout, Cond.selects RX2 yX2_countLostWithout yX2_countLostWithout, Cond.code yX2_countLostWithout cX2_countLostWithout 2 (some .int), Cond.methodLink RL 62 yX8_wouldGo, Cond.methodLink RL 65 yX8_wouldWork, Cond.methodLink RL 68 yX8_collect, Cond.instanceMethod yX8_collect, Cond.selects RX8 yX8_collect yX8_collect, Cond.code yX8_collect cX8_collect 4 (some .int), Cond.methodLink RX8 151 ⟨"Tessera$Store", "cleanUp", "()I"⟩, Cond.sameMethod "Tessera$Store" "Tessera$Store" "cleanUp" "()I", Cond.selects RX0 ⟨"Tessera$Store", "cleanUp", "()I"⟩ yX7_cleanUp, Cond.instanceMethod yX7_cleanUp, Cond.code yX7_cleanUp cX7_cleanUp 1 (some .int), Cond.methodLink RX7 52 ⟨"Tessera$Store", "collectNow", "()I"⟩, Cond.sameMethod "Tessera$Store" "Tessera$Store" "collectNow" "()I", Cond.selects RX0 ⟨"Tessera$Store", "collectNow", "()I"⟩ yX0_collectNow, Cond.selects RX1 ⟨"Tessera$Store", "collectNow", "()I"⟩ yX1_collectNow, Cond.selects RX3 ⟨"Tessera$Store", "collectNow", "()I"⟩ yX3_collectNow, Cond.selects RX4 ⟨"Tessera$Store", "collectNow", "()I"⟩ yX4_collectNow, Cond.selects RX1 ⟨"Tessera$Store", "cleanUp", "()I"⟩ yX7_cleanUp, Cond.selects RX3 ⟨"Tessera$Store", "cleanUp", "()I"⟩ yX7_cleanUp, Cond.selects RX4 ⟨"Tessera$Store", "cleanUp", "()I"⟩ yX7_cleanUp]
def wsL_law0 : List Cond := (wsL_law0_r1 ++ (wsL_law0_r2 ++ (wsL_law0_r3 ++ (wsL_law0_r4 ++ (wsL_law0_r5 ++ (wsL_law0_r6 ++ (wsL_law0_r7 ++ (wsL_law0_r8 ++ (wsL_law0_r9 ++ (wsL_law0_r10 ++ (wsL_law0_r11 ++ (wsL_law0_r12 ++ (wsL_law0_r13 ++ (wsL_law0_r14 ++ (wsL_law0_r15 ++ (wsL_law0_r16 ++ (wsL_law0_r17 ++ (wsL_law0_r18 ++ (wsL_law0_r19 ++ (wsL_law0_r20 ++ (wsL_law0_r21 ++ (wsL_law0_r22 ++ (wsL_law0_r23 ++ (wsL_law0_r24 ++ (wsL_law0_r25 ++ (wsL_law0_r26 ++ (wsL_law0_r27 ++ (wsL_law0_r28 ++ (wsL_law0_r29 ++ (wsL_law0_r30 ++ (wsL_law0_r31 ++ (wsL_law0_r32 ++ (wsL_law0_r33 ++ (wsL_law0_r34 ++ (wsL_law0_r35 ++ (wsL_law0_r36 ++ wsL_law0_r37)))))))))))))))))))))))))))))))))))) ++ wsX80 ++ wsX20 ++ wsX40 ++ wsX30 ++ wsX10 ++ wsX00 ++ wsX50 ++ ([] : List Cond)
theorem inlX0 : ∀ w ∈ wsX00, w ∈ wsL_law0 := fun _ h => List.mem_append_left _ (List.mem_append_left _ (List.mem_append_right _ h))
theorem inlX1 : ∀ w ∈ wsX10, w ∈ wsL_law0 := fun _ h => List.mem_append_left _ (List.mem_append_left _ (List.mem_append_left _ (List.mem_append_right _ h)))
theorem inlX2 : ∀ w ∈ wsX20, w ∈ wsL_law0 := fun _ h => List.mem_append_left _ (List.mem_append_left _ (List.mem_append_left _ (List.mem_append_left _ (List.mem_append_left _ (List.mem_append_left _ (List.mem_append_right _ h))))))
theorem inlX3 : ∀ w ∈ wsX30, w ∈ wsL_law0 := fun _ h => List.mem_append_left _ (List.mem_append_left _ (List.mem_append_left _ (List.mem_append_left _ (List.mem_append_right _ h))))
theorem inlX4 : ∀ w ∈ wsX40, w ∈ wsL_law0 := fun _ h => List.mem_append_left _ (List.mem_append_left _ (List.mem_append_left _ (List.mem_append_left _ (List.mem_append_left _ (List.mem_append_right _ h)))))
theorem inlX5 : ∀ w ∈ wsX50, w ∈ wsL_law0 := fun _ h => List.mem_append_left _ (List.mem_append_right _ h)
theorem inlX8 : ∀ w ∈ wsX80, w ∈ wsL_law0 := fun _ h => List.mem_append_left _ (List.mem_append_left _ (List.mem_append_left _ (List.mem_append_left _ (List.mem_append_left _ (List.mem_append_left _ (List.mem_append_left _ (List.mem_append_right _ h)))))))
theorem dX0_init_0 : decode cX0_init 0 = .ok (.aload_n 0, 1) := by decide +kernel
theorem dX0_init_1 : decode cX0_init 1 = .ok (.aload_n 1, 1) := by decide +kernel
theorem dX0_init_2 : decode cX0_init 2 = .ok (.invokespecial 3, 3) := by decide +kernel
theorem dX0_init_5 : decode cX0_init 5 = .ok (.aload_n 0, 1) := by decide +kernel
theorem dX0_init_6 : decode cX0_init 6 = .ok (.new 9, 3) := by decide +kernel
theorem dX0_init_9 : decode cX0_init 9 = .ok (.dup, 1) := by decide +kernel
theorem dX0_init_10 : decode cX0_init 10 = .ok (.invokespecial 11, 3) := by decide +kernel
theorem dX0_init_13 : decode cX0_init 13 = .ok (.putfield 14, 3) := by decide +kernel
theorem dX0_init_16 : decode cX0_init 16 = .ok (.return_, 1) := by decide +kernel
theorem dX0_forgetThings_0 : decode cX0_forgetThings 0 = .ok (.aload_n 0, 1) := by decide +kernel
theorem dX0_forgetThings_1 : decode cX0_forgetThings 1 = .ok (.iconst 0, 1) := by decide +kernel
theorem dX0_forgetThings_2 : decode cX0_forgetThings 2 = .ok (.putfield 20, 3) := by decide +kernel
theorem dX0_forgetThings_5 : decode cX0_forgetThings 5 = .ok (.aload_n 0, 1) := by decide +kernel
theorem dX0_forgetThings_6 : decode cX0_forgetThings 6 = .ok (.iconst 0, 1) := by decide +kernel
theorem dX0_forgetThings_7 : decode cX0_forgetThings 7 = .ok (.putfield 24, 3) := by decide +kernel
theorem dX0_forgetThings_10 : decode cX0_forgetThings 10 = .ok (.return_, 1) := by decide +kernel
theorem dX0_placeNew_0 : decode cX0_placeNew 0 = .ok (.aload_n 0, 1) := by decide +kernel
theorem dX0_placeNew_1 : decode cX0_placeNew 1 = .ok (.getfield 28, 3) := by decide +kernel
theorem dX0_placeNew_4 : decode cX0_placeNew 4 = .ok (.iload_n 1, 1) := by decide +kernel
theorem dX0_placeNew_5 : decode cX0_placeNew 5 = .ok (.invokevirtual 32, 3) := by decide +kernel
theorem dX0_placeNew_8 : decode cX0_placeNew 8 = .ok (.istore_n 2, 1) := by decide +kernel
theorem dX0_placeNew_9 : decode cX0_placeNew 9 = .ok (.iload_n 2, 1) := by decide +kernel
theorem dX0_placeNew_10 : decode cX0_placeNew 10 = .ok (.aload_n 0, 1) := by decide +kernel
theorem dX0_placeNew_11 : decode cX0_placeNew 11 = .ok (.invokevirtual 38, 3) := by decide +kernel
theorem dX0_placeNew_14 : decode cX0_placeNew 14 = .ok (.if_icmp .le 8, 3) := by decide +kernel
theorem dX0_placeNew_17 : decode cX0_placeNew 17 = .ok (.aload_n 0, 1) := by decide +kernel
theorem dX0_placeNew_18 : decode cX0_placeNew 18 = .ok (.invokevirtual 42, 3) := by decide +kernel
theorem dX0_placeNew_21 : decode cX0_placeNew 21 = .ok (.pop, 1) := by decide +kernel
theorem dX0_placeNew_22 : decode cX0_placeNew 22 = .ok (.iload_n 2, 1) := by decide +kernel
theorem dX0_placeNew_23 : decode cX0_placeNew 23 = .ok (.aload_n 0, 1) := by decide +kernel
theorem dX0_placeNew_24 : decode cX0_placeNew 24 = .ok (.invokevirtual 38, 3) := by decide +kernel
theorem dX0_placeNew_27 : decode cX0_placeNew 27 = .ok (.if_icmp .le 10, 3) := by decide +kernel
theorem dX0_placeNew_30 : decode cX0_placeNew 30 = .ok (.aload_n 0, 1) := by decide +kernel
theorem dX0_placeNew_31 : decode cX0_placeNew 31 = .ok (.invokevirtual 45, 3) := by decide +kernel
theorem dX0_placeNew_34 : decode cX0_placeNew 34 = .ok (.goto 8, 3) := by decide +kernel
theorem dX0_placeNew_37 : decode cX0_placeNew 37 = .ok (.aload_n 0, 1) := by decide +kernel
theorem dX0_placeNew_38 : decode cX0_placeNew 38 = .ok (.iload_n 1, 1) := by decide +kernel
theorem dX0_placeNew_39 : decode cX0_placeNew 39 = .ok (.invokevirtual 48, 3) := by decide +kernel
theorem dX0_placeNew_42 : decode cX0_placeNew 42 = .ok (.return_, 1) := by decide +kernel
theorem dX0_collectNow_0 : decode cX0_collectNow 0 = .ok (.aload_n 0, 1) := by decide +kernel
theorem dX0_collectNow_1 : decode cX0_collectNow 1 = .ok (.invokevirtual 52, 3) := by decide +kernel
theorem dX0_collectNow_4 : decode cX0_collectNow 4 = .ok (.istore_n 1, 1) := by decide +kernel
theorem dX0_collectNow_5 : decode cX0_collectNow 5 = .ok (.aload_n 0, 1) := by decide +kernel
theorem dX0_collectNow_6 : decode cX0_collectNow 6 = .ok (.getfield 28, 3) := by decide +kernel
theorem dX0_collectNow_9 : decode cX0_collectNow 9 = .ok (.aload_n 0, 1) := by decide +kernel
theorem dX0_collectNow_10 : decode cX0_collectNow 10 = .ok (.getfield 14, 3) := by decide +kernel
theorem dX0_collectNow_13 : decode cX0_collectNow 13 = .ok (.iconst (-1), 1) := by decide +kernel
theorem dX0_collectNow_14 : decode cX0_collectNow 14 = .ok (.invokevirtual 55, 3) := by decide +kernel
theorem dX0_collectNow_17 : decode cX0_collectNow 17 = .ok (.aload_n 0, 1) := by decide +kernel
theorem dX0_collectNow_18 : decode cX0_collectNow 18 = .ok (.invokevirtual 59, 3) := by decide +kernel
theorem dX0_collectNow_21 : decode cX0_collectNow 21 = .ok (.aload_n 0, 1) := by decide +kernel
theorem dX0_collectNow_22 : decode cX0_collectNow 22 = .ok (.aload_n 0, 1) := by decide +kernel
theorem dX0_collectNow_23 : decode cX0_collectNow 23 = .ok (.getfield 20, 3) := by decide +kernel
theorem dX0_collectNow_26 : decode cX0_collectNow 26 = .ok (.ifCond .ne 7, 3) := by decide +kernel
theorem dX0_collectNow_29 : decode cX0_collectNow 29 = .ok (.iconst 1, 1) := by decide +kernel
theorem dX0_collectNow_30 : decode cX0_collectNow 30 = .ok (.goto 4, 3) := by decide +kernel
theorem dX0_collectNow_33 : decode cX0_collectNow 33 = .ok (.iconst 0, 1) := by decide +kernel
theorem dX0_collectNow_34 : decode cX0_collectNow 34 = .ok (.putfield 20, 3) := by decide +kernel
theorem dX0_collectNow_37 : decode cX0_collectNow 37 = .ok (.aload_n 0, 1) := by decide +kernel
theorem dX0_collectNow_38 : decode cX0_collectNow 38 = .ok (.iconst 0, 1) := by decide +kernel
theorem dX0_collectNow_39 : decode cX0_collectNow 39 = .ok (.putfield 24, 3) := by decide +kernel
theorem dX0_collectNow_42 : decode cX0_collectNow 42 = .ok (.iconst 0, 1) := by decide +kernel
theorem dX0_collectNow_43 : decode cX0_collectNow 43 = .ok (.istore_n 2, 1) := by decide +kernel
theorem dX0_collectNow_44 : decode cX0_collectNow 44 = .ok (.iload_n 2, 1) := by decide +kernel
theorem dX0_collectNow_45 : decode cX0_collectNow 45 = .ok (.aload_n 0, 1) := by decide +kernel
theorem dX0_collectNow_46 : decode cX0_collectNow 46 = .ok (.getfield 14, 3) := by decide +kernel
theorem dX0_collectNow_49 : decode cX0_collectNow 49 = .ok (.getfield 62, 3) := by decide +kernel
theorem dX0_collectNow_52 : decode cX0_collectNow 52 = .ok (.if_icmp .ge 21, 3) := by decide +kernel
theorem dX0_collectNow_55 : decode cX0_collectNow 55 = .ok (.aload_n 0, 1) := by decide +kernel
theorem dX0_collectNow_56 : decode cX0_collectNow 56 = .ok (.aload_n 0, 1) := by decide +kernel
theorem dX0_collectNow_57 : decode cX0_collectNow 57 = .ok (.getfield 14, 3) := by decide +kernel
theorem dX0_collectNow_60 : decode cX0_collectNow 60 = .ok (.iload_n 2, 1) := by decide +kernel
theorem dX0_collectNow_61 : decode cX0_collectNow 61 = .ok (.invokevirtual 65, 3) := by decide +kernel
theorem dX0_collectNow_64 : decode cX0_collectNow 64 = .ok (.invokevirtual 48, 3) := by decide +kernel
theorem dX0_collectNow_67 : decode cX0_collectNow 67 = .ok (.iinc 2 1, 3) := by decide +kernel
theorem dX0_collectNow_70 : decode cX0_collectNow 70 = .ok (.goto (-26), 3) := by decide +kernel
theorem dX0_collectNow_73 : decode cX0_collectNow 73 = .ok (.aload_n 0, 1) := by decide +kernel
theorem dX0_collectNow_74 : decode cX0_collectNow 74 = .ok (.dup, 1) := by decide +kernel
theorem dX0_collectNow_75 : decode cX0_collectNow 75 = .ok (.getfield 68, 3) := by decide +kernel
theorem dX0_collectNow_78 : decode cX0_collectNow 78 = .ok (.aload_n 0, 1) := by decide +kernel
theorem dX0_collectNow_79 : decode cX0_collectNow 79 = .ok (.getfield 24, 3) := by decide +kernel
theorem dX0_collectNow_82 : decode cX0_collectNow 82 = .ok (.iadd, 1) := by decide +kernel
theorem dX0_collectNow_83 : decode cX0_collectNow 83 = .ok (.putfield 68, 3) := by decide +kernel
theorem dX0_collectNow_86 : decode cX0_collectNow 86 = .ok (.aload_n 0, 1) := by decide +kernel
theorem dX0_collectNow_87 : decode cX0_collectNow 87 = .ok (.dup, 1) := by decide +kernel
theorem dX0_collectNow_88 : decode cX0_collectNow 88 = .ok (.getfield 71, 3) := by decide +kernel
theorem dX0_collectNow_91 : decode cX0_collectNow 91 = .ok (.iconst 1, 1) := by decide +kernel
theorem dX0_collectNow_92 : decode cX0_collectNow 92 = .ok (.iadd, 1) := by decide +kernel
theorem dX0_collectNow_93 : decode cX0_collectNow 93 = .ok (.putfield 71, 3) := by decide +kernel
theorem dX0_collectNow_96 : decode cX0_collectNow 96 = .ok (.iload_n 1, 1) := by decide +kernel
theorem dX0_collectNow_97 : decode cX0_collectNow 97 = .ok (.aload_n 0, 1) := by decide +kernel
theorem dX0_collectNow_98 : decode cX0_collectNow 98 = .ok (.getfield 14, 3) := by decide +kernel
theorem dX0_collectNow_101 : decode cX0_collectNow 101 = .ok (.getfield 62, 3) := by decide +kernel
theorem dX0_collectNow_104 : decode cX0_collectNow 104 = .ok (.isub, 1) := by decide +kernel
theorem dX0_collectNow_105 : decode cX0_collectNow 105 = .ok (.ireturn, 1) := by decide +kernel
theorem dX0_countToGo_0 : decode cX0_countToGo 0 = .ok (.aload_n 0, 1) := by decide +kernel
theorem dX0_countToGo_1 : decode cX0_countToGo 1 = .ok (.invokevirtual 74, 3) := by decide +kernel
theorem dX0_countToGo_4 : decode cX0_countToGo 4 = .ok (.ireturn, 1) := by decide +kernel
theorem dX0_workToDo_0 : decode cX0_workToDo 0 = .ok (.aload_n 0, 1) := by decide +kernel
theorem dX0_workToDo_1 : decode cX0_workToDo 1 = .ok (.invokevirtual 77, 3) := by decide +kernel
theorem dX0_workToDo_4 : decode cX0_workToDo 4 = .ok (.ireturn, 1) := by decide +kernel
theorem dX0_freeTogether_0 : decode cX0_freeTogether 0 = .ok (.aload_n 0, 1) := by decide +kernel
theorem dX0_freeTogether_1 : decode cX0_freeTogether 1 = .ok (.getfield 80, 3) := by decide +kernel
theorem dX0_freeTogether_4 : decode cX0_freeTogether 4 = .ok (.iconst 2, 1) := by decide +kernel
theorem dX0_freeTogether_5 : decode cX0_freeTogether 5 = .ok (.idiv, 1) := by decide +kernel
theorem dX0_freeTogether_6 : decode cX0_freeTogether 6 = .ok (.aload_n 0, 1) := by decide +kernel
theorem dX0_freeTogether_7 : decode cX0_freeTogether 7 = .ok (.getfield 24, 3) := by decide +kernel
theorem dX0_freeTogether_10 : decode cX0_freeTogether 10 = .ok (.isub, 1) := by decide +kernel
theorem dX0_freeTogether_11 : decode cX0_freeTogether 11 = .ok (.ireturn, 1) := by decide +kernel
theorem dX0_putBehind_0 : decode cX0_putBehind 0 = .ok (.aload_n 0, 1) := by decide +kernel
theorem dX0_putBehind_1 : decode cX0_putBehind 1 = .ok (.iload_n 1, 1) := by decide +kernel
theorem dX0_putBehind_2 : decode cX0_putBehind 2 = .ok (.aload_n 0, 1) := by decide +kernel
theorem dX0_putBehind_3 : decode cX0_putBehind 3 = .ok (.getfield 20, 3) := by decide +kernel
theorem dX0_putBehind_6 : decode cX0_putBehind 6 = .ok (.ifCond .eq 12, 3) := by decide +kernel
theorem dX0_putBehind_9 : decode cX0_putBehind 9 = .ok (.aload_n 0, 1) := by decide +kernel
theorem dX0_putBehind_10 : decode cX0_putBehind 10 = .ok (.getfield 80, 3) := by decide +kernel
theorem dX0_putBehind_13 : decode cX0_putBehind 13 = .ok (.iconst 2, 1) := by decide +kernel
theorem dX0_putBehind_14 : decode cX0_putBehind 14 = .ok (.idiv, 1) := by decide +kernel
theorem dX0_putBehind_15 : decode cX0_putBehind 15 = .ok (.goto 4, 3) := by decide +kernel
theorem dX0_putBehind_18 : decode cX0_putBehind 18 = .ok (.iconst 0, 1) := by decide +kernel
theorem dX0_putBehind_19 : decode cX0_putBehind 19 = .ok (.aload_n 0, 1) := by decide +kernel
theorem dX0_putBehind_20 : decode cX0_putBehind 20 = .ok (.getfield 24, 3) := by decide +kernel
theorem dX0_putBehind_23 : decode cX0_putBehind 23 = .ok (.iadd, 1) := by decide +kernel
theorem dX0_putBehind_24 : decode cX0_putBehind 24 = .ok (.invokevirtual 83, 3) := by decide +kernel
theorem dX0_putBehind_27 : decode cX0_putBehind 27 = .ok (.aload_n 0, 1) := by decide +kernel
theorem dX0_putBehind_28 : decode cX0_putBehind 28 = .ok (.dup, 1) := by decide +kernel
theorem dX0_putBehind_29 : decode cX0_putBehind 29 = .ok (.getfield 24, 3) := by decide +kernel
theorem dX0_putBehind_32 : decode cX0_putBehind 32 = .ok (.aload_n 0, 1) := by decide +kernel
theorem dX0_putBehind_33 : decode cX0_putBehind 33 = .ok (.getfield 28, 3) := by decide +kernel
theorem dX0_putBehind_36 : decode cX0_putBehind 36 = .ok (.iload_n 1, 1) := by decide +kernel
theorem dX0_putBehind_37 : decode cX0_putBehind 37 = .ok (.invokevirtual 32, 3) := by decide +kernel
theorem dX0_putBehind_40 : decode cX0_putBehind 40 = .ok (.iadd, 1) := by decide +kernel
theorem dX0_putBehind_41 : decode cX0_putBehind 41 = .ok (.putfield 24, 3) := by decide +kernel
theorem dX0_putBehind_44 : decode cX0_putBehind 44 = .ok (.return_, 1) := by decide +kernel
theorem dX1_init_0 : decode cX1_init 0 = .ok (.aload_n 0, 1) := by decide +kernel
theorem dX1_init_1 : decode cX1_init 1 = .ok (.aload_n 1, 1) := by decide +kernel
theorem dX1_init_2 : decode cX1_init 2 = .ok (.invokespecial 3, 3) := by decide +kernel
theorem dX1_init_5 : decode cX1_init 5 = .ok (.aload_n 0, 1) := by decide +kernel
theorem dX1_init_6 : decode cX1_init 6 = .ok (.bipush 80, 2) := by decide +kernel
theorem dX1_init_8 : decode cX1_init 8 = .ok (.newarray .int, 2) := by decide +kernel
theorem dX1_init_10 : decode cX1_init 10 = .ok (.putfield 9, 3) := by decide +kernel
theorem dX1_init_13 : decode cX1_init 13 = .ok (.aload_n 0, 1) := by decide +kernel
theorem dX1_init_14 : decode cX1_init 14 = .ok (.bipush 80, 2) := by decide +kernel
theorem dX1_init_16 : decode cX1_init 16 = .ok (.newarray .boolean, 2) := by decide +kernel
theorem dX1_init_18 : decode cX1_init 18 = .ok (.putfield 15, 3) := by decide +kernel
theorem dX1_init_21 : decode cX1_init 21 = .ok (.aload_n 0, 1) := by decide +kernel
theorem dX1_init_22 : decode cX1_init 22 = .ok (.bipush 80, 2) := by decide +kernel
theorem dX1_init_24 : decode cX1_init 24 = .ok (.newarray .int, 2) := by decide +kernel
theorem dX1_init_26 : decode cX1_init 26 = .ok (.putfield 19, 3) := by decide +kernel
theorem dX1_init_29 : decode cX1_init 29 = .ok (.aload_n 0, 1) := by decide +kernel
theorem dX1_init_30 : decode cX1_init 30 = .ok (.new 22, 3) := by decide +kernel
theorem dX1_init_33 : decode cX1_init 33 = .ok (.dup, 1) := by decide +kernel
theorem dX1_init_34 : decode cX1_init 34 = .ok (.invokespecial 24, 3) := by decide +kernel
theorem dX1_init_37 : decode cX1_init 37 = .ok (.putfield 27, 3) := by decide +kernel
theorem dX1_init_40 : decode cX1_init 40 = .ok (.aload_n 0, 1) := by decide +kernel
theorem dX1_init_41 : decode cX1_init 41 = .ok (.new 22, 3) := by decide +kernel
theorem dX1_init_44 : decode cX1_init 44 = .ok (.dup, 1) := by decide +kernel
theorem dX1_init_45 : decode cX1_init 45 = .ok (.invokespecial 24, 3) := by decide +kernel
theorem dX1_init_48 : decode cX1_init 48 = .ok (.putfield 31, 3) := by decide +kernel
theorem dX1_init_51 : decode cX1_init 51 = .ok (.aload_n 0, 1) := by decide +kernel
theorem dX1_init_52 : decode cX1_init 52 = .ok (.new 22, 3) := by decide +kernel
theorem dX1_init_55 : decode cX1_init 55 = .ok (.dup, 1) := by decide +kernel
theorem dX1_init_56 : decode cX1_init 56 = .ok (.invokespecial 24, 3) := by decide +kernel
theorem dX1_init_59 : decode cX1_init 59 = .ok (.putfield 34, 3) := by decide +kernel
theorem dX1_init_62 : decode cX1_init 62 = .ok (.return_, 1) := by decide +kernel
theorem dX1_forgetThings_0 : decode cX1_forgetThings 0 = .ok (.iconst 0, 1) := by decide +kernel
theorem dX1_forgetThings_1 : decode cX1_forgetThings 1 = .ok (.istore_n 1, 1) := by decide +kernel
theorem dX1_forgetThings_2 : decode cX1_forgetThings 2 = .ok (.iload_n 1, 1) := by decide +kernel
theorem dX1_forgetThings_3 : decode cX1_forgetThings 3 = .ok (.bipush 80, 2) := by decide +kernel
theorem dX1_forgetThings_5 : decode cX1_forgetThings 5 = .ok (.if_icmp .ge 16, 3) := by decide +kernel
theorem dX1_forgetThings_8 : decode cX1_forgetThings 8 = .ok (.aload_n 0, 1) := by decide +kernel
theorem dX1_forgetThings_9 : decode cX1_forgetThings 9 = .ok (.getfield 15, 3) := by decide +kernel
theorem dX1_forgetThings_12 : decode cX1_forgetThings 12 = .ok (.iload_n 1, 1) := by decide +kernel
theorem dX1_forgetThings_13 : decode cX1_forgetThings 13 = .ok (.iconst 0, 1) := by decide +kernel
theorem dX1_forgetThings_14 : decode cX1_forgetThings 14 = .ok (.bastore, 1) := by decide +kernel
theorem dX1_forgetThings_15 : decode cX1_forgetThings 15 = .ok (.iinc 1 1, 3) := by decide +kernel
theorem dX1_forgetThings_18 : decode cX1_forgetThings 18 = .ok (.goto (-16), 3) := by decide +kernel
theorem dX1_forgetThings_21 : decode cX1_forgetThings 21 = .ok (.return_, 1) := by decide +kernel
theorem dX1_resetCounters_0 : decode cX1_resetCounters 0 = .ok (.aload_n 0, 1) := by decide +kernel
theorem dX1_resetCounters_1 : decode cX1_resetCounters 1 = .ok (.iconst 0, 1) := by decide +kernel
theorem dX1_resetCounters_2 : decode cX1_resetCounters 2 = .ok (.putfield 37, 3) := by decide +kernel
theorem dX1_resetCounters_5 : decode cX1_resetCounters 5 = .ok (.return_, 1) := by decide +kernel
theorem dX1_placeNew_0 : decode cX1_placeNew 0 = .ok (.aload_n 0, 1) := by decide +kernel
theorem dX1_placeNew_1 : decode cX1_placeNew 1 = .ok (.iload_n 1, 1) := by decide +kernel
theorem dX1_placeNew_2 : decode cX1_placeNew 2 = .ok (.invokevirtual 41, 3) := by decide +kernel
theorem dX1_placeNew_5 : decode cX1_placeNew 5 = .ok (.istore_n 2, 1) := by decide +kernel
theorem dX1_placeNew_6 : decode cX1_placeNew 6 = .ok (.iload_n 2, 1) := by decide +kernel
theorem dX1_placeNew_7 : decode cX1_placeNew 7 = .ok (.iconst (-1), 1) := by decide +kernel
theorem dX1_placeNew_8 : decode cX1_placeNew 8 = .ok (.if_icmp .ne 14, 3) := by decide +kernel
theorem dX1_placeNew_11 : decode cX1_placeNew 11 = .ok (.aload_n 0, 1) := by decide +kernel
theorem dX1_placeNew_12 : decode cX1_placeNew 12 = .ok (.invokevirtual 45, 3) := by decide +kernel
theorem dX1_placeNew_15 : decode cX1_placeNew 15 = .ok (.pop, 1) := by decide +kernel
theorem dX1_placeNew_16 : decode cX1_placeNew 16 = .ok (.aload_n 0, 1) := by decide +kernel
theorem dX1_placeNew_17 : decode cX1_placeNew 17 = .ok (.iload_n 1, 1) := by decide +kernel
theorem dX1_placeNew_18 : decode cX1_placeNew 18 = .ok (.invokevirtual 41, 3) := by decide +kernel
theorem dX1_placeNew_21 : decode cX1_placeNew 21 = .ok (.istore_n 2, 1) := by decide +kernel
theorem dX1_placeNew_22 : decode cX1_placeNew 22 = .ok (.iload_n 2, 1) := by decide +kernel
theorem dX1_placeNew_23 : decode cX1_placeNew 23 = .ok (.iconst (-1), 1) := by decide +kernel
theorem dX1_placeNew_24 : decode cX1_placeNew 24 = .ok (.if_icmp .ne 8, 3) := by decide +kernel
theorem dX1_placeNew_27 : decode cX1_placeNew 27 = .ok (.aload_n 0, 1) := by decide +kernel
theorem dX1_placeNew_28 : decode cX1_placeNew 28 = .ok (.invokevirtual 49, 3) := by decide +kernel
theorem dX1_placeNew_31 : decode cX1_placeNew 31 = .ok (.return_, 1) := by decide +kernel
theorem dX1_placeNew_32 : decode cX1_placeNew 32 = .ok (.aload_n 0, 1) := by decide +kernel
theorem dX1_placeNew_33 : decode cX1_placeNew 33 = .ok (.iload_n 1, 1) := by decide +kernel
theorem dX1_placeNew_34 : decode cX1_placeNew 34 = .ok (.iload_n 2, 1) := by decide +kernel
theorem dX1_placeNew_35 : decode cX1_placeNew 35 = .ok (.invokevirtual 52, 3) := by decide +kernel
theorem dX1_placeNew_38 : decode cX1_placeNew 38 = .ok (.aload_n 0, 1) := by decide +kernel
theorem dX1_placeNew_39 : decode cX1_placeNew 39 = .ok (.getfield 56, 3) := by decide +kernel
theorem dX1_placeNew_42 : decode cX1_placeNew 42 = .ok (.iload_n 1, 1) := by decide +kernel
theorem dX1_placeNew_43 : decode cX1_placeNew 43 = .ok (.invokevirtual 60, 3) := by decide +kernel
theorem dX1_placeNew_46 : decode cX1_placeNew 46 = .ok (.ifCond .eq 17, 3) := by decide +kernel
theorem dX1_placeNew_49 : decode cX1_placeNew 49 = .ok (.aload_n 0, 1) := by decide +kernel
theorem dX1_placeNew_50 : decode cX1_placeNew 50 = .ok (.getfield 9, 3) := by decide +kernel
theorem dX1_placeNew_53 : decode cX1_placeNew 53 = .ok (.iload_n 1, 1) := by decide +kernel
theorem dX1_placeNew_54 : decode cX1_placeNew 54 = .ok (.iconst 0, 1) := by decide +kernel
theorem dX1_placeNew_55 : decode cX1_placeNew 55 = .ok (.iastore, 1) := by decide +kernel
theorem dX1_placeNew_56 : decode cX1_placeNew 56 = .ok (.aload_n 0, 1) := by decide +kernel
theorem dX1_placeNew_57 : decode cX1_placeNew 57 = .ok (.getfield 15, 3) := by decide +kernel
theorem dX1_placeNew_60 : decode cX1_placeNew 60 = .ok (.iload_n 1, 1) := by decide +kernel
theorem dX1_placeNew_61 : decode cX1_placeNew 61 = .ok (.iconst 0, 1) := by decide +kernel
theorem dX1_placeNew_62 : decode cX1_placeNew 62 = .ok (.bastore, 1) := by decide +kernel
theorem dX1_placeNew_63 : decode cX1_placeNew 63 = .ok (.return_, 1) := by decide +kernel
theorem dX1_collectNow_0 : decode cX1_collectNow 0 = .ok (.aload_n 0, 1) := by decide +kernel
theorem dX1_collectNow_1 : decode cX1_collectNow 1 = .ok (.invokevirtual 66, 3) := by decide +kernel
theorem dX1_collectNow_4 : decode cX1_collectNow 4 = .ok (.aload_n 0, 1) := by decide +kernel
theorem dX1_collectNow_5 : decode cX1_collectNow 5 = .ok (.dup, 1) := by decide +kernel
theorem dX1_collectNow_6 : decode cX1_collectNow 6 = .ok (.getfield 69, 3) := by decide +kernel
theorem dX1_collectNow_9 : decode cX1_collectNow 9 = .ok (.aload_n 0, 1) := by decide +kernel
theorem dX1_collectNow_10 : decode cX1_collectNow 10 = .ok (.getfield 31, 3) := by decide +kernel
theorem dX1_collectNow_13 : decode cX1_collectNow 13 = .ok (.getfield 72, 3) := by decide +kernel
theorem dX1_collectNow_16 : decode cX1_collectNow 16 = .ok (.iadd, 1) := by decide +kernel
theorem dX1_collectNow_17 : decode cX1_collectNow 17 = .ok (.putfield 69, 3) := by decide +kernel
theorem dX1_collectNow_20 : decode cX1_collectNow 20 = .ok (.aload_n 0, 1) := by decide +kernel
theorem dX1_collectNow_21 : decode cX1_collectNow 21 = .ok (.getfield 31, 3) := by decide +kernel
theorem dX1_collectNow_24 : decode cX1_collectNow 24 = .ok (.getfield 72, 3) := by decide +kernel
theorem dX1_collectNow_27 : decode cX1_collectNow 27 = .ok (.aload_n 0, 1) := by decide +kernel
theorem dX1_collectNow_28 : decode cX1_collectNow 28 = .ok (.getfield 34, 3) := by decide +kernel
theorem dX1_collectNow_31 : decode cX1_collectNow 31 = .ok (.getfield 72, 3) := by decide +kernel
theorem dX1_collectNow_34 : decode cX1_collectNow 34 = .ok (.isub, 1) := by decide +kernel
theorem dX1_collectNow_35 : decode cX1_collectNow 35 = .ok (.istore_n 1, 1) := by decide +kernel
theorem dX1_collectNow_36 : decode cX1_collectNow 36 = .ok (.iconst 0, 1) := by decide +kernel
theorem dX1_collectNow_37 : decode cX1_collectNow 37 = .ok (.istore_n 2, 1) := by decide +kernel
theorem dX1_collectNow_38 : decode cX1_collectNow 38 = .ok (.iload_n 2, 1) := by decide +kernel
theorem dX1_collectNow_39 : decode cX1_collectNow 39 = .ok (.aload_n 0, 1) := by decide +kernel
theorem dX1_collectNow_40 : decode cX1_collectNow 40 = .ok (.getfield 31, 3) := by decide +kernel
theorem dX1_collectNow_43 : decode cX1_collectNow 43 = .ok (.getfield 72, 3) := by decide +kernel
theorem dX1_collectNow_46 : decode cX1_collectNow 46 = .ok (.if_icmp .ge 39, 3) := by decide +kernel
theorem dX1_collectNow_49 : decode cX1_collectNow 49 = .ok (.aload_n 0, 1) := by decide +kernel
theorem dX1_collectNow_50 : decode cX1_collectNow 50 = .ok (.getfield 34, 3) := by decide +kernel
theorem dX1_collectNow_53 : decode cX1_collectNow 53 = .ok (.aload_n 0, 1) := by decide +kernel
theorem dX1_collectNow_54 : decode cX1_collectNow 54 = .ok (.getfield 31, 3) := by decide +kernel
theorem dX1_collectNow_57 : decode cX1_collectNow 57 = .ok (.iload_n 2, 1) := by decide +kernel
theorem dX1_collectNow_58 : decode cX1_collectNow 58 = .ok (.invokevirtual 75, 3) := by decide +kernel
theorem dX1_collectNow_61 : decode cX1_collectNow 61 = .ok (.invokevirtual 78, 3) := by decide +kernel
theorem dX1_collectNow_64 : decode cX1_collectNow 64 = .ok (.ifCond .ne 15, 3) := by decide +kernel
theorem dX1_collectNow_67 : decode cX1_collectNow 67 = .ok (.aload_n 0, 1) := by decide +kernel
theorem dX1_collectNow_68 : decode cX1_collectNow 68 = .ok (.aload_n 0, 1) := by decide +kernel
theorem dX1_collectNow_69 : decode cX1_collectNow 69 = .ok (.getfield 31, 3) := by decide +kernel
theorem dX1_collectNow_72 : decode cX1_collectNow 72 = .ok (.iload_n 2, 1) := by decide +kernel
theorem dX1_collectNow_73 : decode cX1_collectNow 73 = .ok (.invokevirtual 75, 3) := by decide +kernel
theorem dX1_collectNow_76 : decode cX1_collectNow 76 = .ok (.invokevirtual 81, 3) := by decide +kernel
theorem dX1_collectNow_79 : decode cX1_collectNow 79 = .ok (.iinc 2 1, 3) := by decide +kernel
theorem dX1_collectNow_82 : decode cX1_collectNow 82 = .ok (.goto (-44), 3) := by decide +kernel
theorem dX1_collectNow_85 : decode cX1_collectNow 85 = .ok (.iconst 0, 1) := by decide +kernel
theorem dX1_collectNow_86 : decode cX1_collectNow 86 = .ok (.istore_n 2, 1) := by decide +kernel
theorem dX1_collectNow_87 : decode cX1_collectNow 87 = .ok (.iload_n 2, 1) := by decide +kernel
theorem dX1_collectNow_88 : decode cX1_collectNow 88 = .ok (.bipush 80, 2) := by decide +kernel
theorem dX1_collectNow_90 : decode cX1_collectNow 90 = .ok (.if_icmp .ge 16, 3) := by decide +kernel
theorem dX1_collectNow_93 : decode cX1_collectNow 93 = .ok (.aload_n 0, 1) := by decide +kernel
theorem dX1_collectNow_94 : decode cX1_collectNow 94 = .ok (.getfield 15, 3) := by decide +kernel
theorem dX1_collectNow_97 : decode cX1_collectNow 97 = .ok (.iload_n 2, 1) := by decide +kernel
theorem dX1_collectNow_98 : decode cX1_collectNow 98 = .ok (.iconst 0, 1) := by decide +kernel
theorem dX1_collectNow_99 : decode cX1_collectNow 99 = .ok (.bastore, 1) := by decide +kernel
theorem dX1_collectNow_100 : decode cX1_collectNow 100 = .ok (.iinc 2 1, 3) := by decide +kernel
theorem dX1_collectNow_103 : decode cX1_collectNow 103 = .ok (.goto (-16), 3) := by decide +kernel
theorem dX1_collectNow_106 : decode cX1_collectNow 106 = .ok (.aload_n 0, 1) := by decide +kernel
theorem dX1_collectNow_107 : decode cX1_collectNow 107 = .ok (.dup, 1) := by decide +kernel
theorem dX1_collectNow_108 : decode cX1_collectNow 108 = .ok (.getfield 37, 3) := by decide +kernel
theorem dX1_collectNow_111 : decode cX1_collectNow 111 = .ok (.iload_n 1, 1) := by decide +kernel
theorem dX1_collectNow_112 : decode cX1_collectNow 112 = .ok (.iadd, 1) := by decide +kernel
theorem dX1_collectNow_113 : decode cX1_collectNow 113 = .ok (.putfield 37, 3) := by decide +kernel
theorem dX1_collectNow_116 : decode cX1_collectNow 116 = .ok (.aload_n 0, 1) := by decide +kernel
theorem dX1_collectNow_117 : decode cX1_collectNow 117 = .ok (.dup, 1) := by decide +kernel
theorem dX1_collectNow_118 : decode cX1_collectNow 118 = .ok (.getfield 85, 3) := by decide +kernel
theorem dX1_collectNow_121 : decode cX1_collectNow 121 = .ok (.iconst 1, 1) := by decide +kernel
theorem dX1_collectNow_122 : decode cX1_collectNow 122 = .ok (.iadd, 1) := by decide +kernel
theorem dX1_collectNow_123 : decode cX1_collectNow 123 = .ok (.putfield 85, 3) := by decide +kernel
theorem dX1_collectNow_126 : decode cX1_collectNow 126 = .ok (.iload_n 1, 1) := by decide +kernel
theorem dX1_collectNow_127 : decode cX1_collectNow 127 = .ok (.ireturn, 1) := by decide +kernel
theorem dX1_learnNaming_0 : decode cX1_learnNaming 0 = .ok (.aload_n 0, 1) := by decide +kernel
theorem dX1_learnNaming_1 : decode cX1_learnNaming 1 = .ok (.iload_n 3, 1) := by decide +kernel
theorem dX1_learnNaming_2 : decode cX1_learnNaming 2 = .ok (.invokevirtual 88, 3) := by decide +kernel
theorem dX1_learnNaming_5 : decode cX1_learnNaming 5 = .ok (.ifCond .eq 23, 3) := by decide +kernel
theorem dX1_learnNaming_8 : decode cX1_learnNaming 8 = .ok (.aload_n 0, 1) := by decide +kernel
theorem dX1_learnNaming_9 : decode cX1_learnNaming 9 = .ok (.getfield 9, 3) := by decide +kernel
theorem dX1_learnNaming_12 : decode cX1_learnNaming 12 = .ok (.iload_n 3, 1) := by decide +kernel
theorem dX1_learnNaming_13 : decode cX1_learnNaming 13 = .ok (.dup2, 1) := by decide +kernel
theorem dX1_learnNaming_14 : decode cX1_learnNaming 14 = .ok (.iaload, 1) := by decide +kernel
theorem dX1_learnNaming_15 : decode cX1_learnNaming 15 = .ok (.iconst 1, 1) := by decide +kernel
theorem dX1_learnNaming_16 : decode cX1_learnNaming 16 = .ok (.iadd, 1) := by decide +kernel
theorem dX1_learnNaming_17 : decode cX1_learnNaming 17 = .ok (.iastore, 1) := by decide +kernel
theorem dX1_learnNaming_18 : decode cX1_learnNaming 18 = .ok (.aload_n 0, 1) := by decide +kernel
theorem dX1_learnNaming_19 : decode cX1_learnNaming 19 = .ok (.dup, 1) := by decide +kernel
theorem dX1_learnNaming_20 : decode cX1_learnNaming 20 = .ok (.getfield 69, 3) := by decide +kernel
theorem dX1_learnNaming_23 : decode cX1_learnNaming 23 = .ok (.iconst 1, 1) := by decide +kernel
theorem dX1_learnNaming_24 : decode cX1_learnNaming 24 = .ok (.iadd, 1) := by decide +kernel
theorem dX1_learnNaming_25 : decode cX1_learnNaming 25 = .ok (.putfield 69, 3) := by decide +kernel
theorem dX1_learnNaming_28 : decode cX1_learnNaming 28 = .ok (.aload_n 0, 1) := by decide +kernel
theorem dX1_learnNaming_29 : decode cX1_learnNaming 29 = .ok (.iload_n 2, 1) := by decide +kernel
theorem dX1_learnNaming_30 : decode cX1_learnNaming 30 = .ok (.invokevirtual 88, 3) := by decide +kernel
theorem dX1_learnNaming_33 : decode cX1_learnNaming 33 = .ok (.ifCond .eq 8, 3) := by decide +kernel
theorem dX1_learnNaming_36 : decode cX1_learnNaming 36 = .ok (.aload_n 0, 1) := by decide +kernel
theorem dX1_learnNaming_37 : decode cX1_learnNaming 37 = .ok (.iload_n 2, 1) := by decide +kernel
theorem dX1_learnNaming_38 : decode cX1_learnNaming 38 = .ok (.invokevirtual 91, 3) := by decide +kernel
theorem dX1_learnNaming_41 : decode cX1_learnNaming 41 = .ok (.return_, 1) := by decide +kernel
theorem dX1_countToGo_0 : decode cX1_countToGo 0 = .ok (.aload_n 0, 1) := by decide +kernel
theorem dX1_countToGo_1 : decode cX1_countToGo 1 = .ok (.invokevirtual 66, 3) := by decide +kernel
theorem dX1_countToGo_4 : decode cX1_countToGo 4 = .ok (.aload_n 0, 1) := by decide +kernel
theorem dX1_countToGo_5 : decode cX1_countToGo 5 = .ok (.getfield 31, 3) := by decide +kernel
theorem dX1_countToGo_8 : decode cX1_countToGo 8 = .ok (.getfield 72, 3) := by decide +kernel
theorem dX1_countToGo_11 : decode cX1_countToGo 11 = .ok (.aload_n 0, 1) := by decide +kernel
theorem dX1_countToGo_12 : decode cX1_countToGo 12 = .ok (.getfield 34, 3) := by decide +kernel
theorem dX1_countToGo_15 : decode cX1_countToGo 15 = .ok (.getfield 72, 3) := by decide +kernel
theorem dX1_countToGo_18 : decode cX1_countToGo 18 = .ok (.isub, 1) := by decide +kernel
theorem dX1_countToGo_19 : decode cX1_countToGo 19 = .ok (.ireturn, 1) := by decide +kernel
theorem dX1_workToDo_0 : decode cX1_workToDo 0 = .ok (.aload_n 0, 1) := by decide +kernel
theorem dX1_workToDo_1 : decode cX1_workToDo 1 = .ok (.invokevirtual 66, 3) := by decide +kernel
theorem dX1_workToDo_4 : decode cX1_workToDo 4 = .ok (.aload_n 0, 1) := by decide +kernel
theorem dX1_workToDo_5 : decode cX1_workToDo 5 = .ok (.getfield 31, 3) := by decide +kernel
theorem dX1_workToDo_8 : decode cX1_workToDo 8 = .ok (.getfield 72, 3) := by decide +kernel
theorem dX1_workToDo_11 : decode cX1_workToDo 11 = .ok (.ireturn, 1) := by decide +kernel
theorem dX1_countOf_0 : decode cX1_countOf 0 = .ok (.aload_n 0, 1) := by decide +kernel
theorem dX1_countOf_1 : decode cX1_countOf 1 = .ok (.iload_n 1, 1) := by decide +kernel
theorem dX1_countOf_2 : decode cX1_countOf 2 = .ok (.invokevirtual 88, 3) := by decide +kernel
theorem dX1_countOf_5 : decode cX1_countOf 5 = .ok (.ifCond .eq 12, 3) := by decide +kernel
theorem dX1_countOf_8 : decode cX1_countOf 8 = .ok (.aload_n 0, 1) := by decide +kernel
theorem dX1_countOf_9 : decode cX1_countOf 9 = .ok (.getfield 9, 3) := by decide +kernel
theorem dX1_countOf_12 : decode cX1_countOf 12 = .ok (.iload_n 1, 1) := by decide +kernel
theorem dX1_countOf_13 : decode cX1_countOf 13 = .ok (.iaload, 1) := by decide +kernel
theorem dX1_countOf_14 : decode cX1_countOf 14 = .ok (.goto 4, 3) := by decide +kernel
theorem dX1_countOf_17 : decode cX1_countOf 17 = .ok (.iconst (-1), 1) := by decide +kernel
theorem dX1_countOf_18 : decode cX1_countOf 18 = .ok (.ireturn, 1) := by decide +kernel
theorem dX1_isSuspect_0 : decode cX1_isSuspect 0 = .ok (.aload_n 0, 1) := by decide +kernel
theorem dX1_isSuspect_1 : decode cX1_isSuspect 1 = .ok (.iload_n 1, 1) := by decide +kernel
theorem dX1_isSuspect_2 : decode cX1_isSuspect 2 = .ok (.invokevirtual 88, 3) := by decide +kernel
theorem dX1_isSuspect_5 : decode cX1_isSuspect 5 = .ok (.ifCond .eq 16, 3) := by decide +kernel
theorem dX1_isSuspect_8 : decode cX1_isSuspect 8 = .ok (.aload_n 0, 1) := by decide +kernel
theorem dX1_isSuspect_9 : decode cX1_isSuspect 9 = .ok (.getfield 15, 3) := by decide +kernel
theorem dX1_isSuspect_12 : decode cX1_isSuspect 12 = .ok (.iload_n 1, 1) := by decide +kernel
theorem dX1_isSuspect_13 : decode cX1_isSuspect 13 = .ok (.baload, 1) := by decide +kernel
theorem dX1_isSuspect_14 : decode cX1_isSuspect 14 = .ok (.ifCond .eq 7, 3) := by decide +kernel
theorem dX1_isSuspect_17 : decode cX1_isSuspect 17 = .ok (.iconst 1, 1) := by decide +kernel
theorem dX1_isSuspect_18 : decode cX1_isSuspect 18 = .ok (.goto 4, 3) := by decide +kernel
theorem dX1_isSuspect_21 : decode cX1_isSuspect 21 = .ok (.iconst 0, 1) := by decide +kernel
theorem dX1_isSuspect_22 : decode cX1_isSuspect 22 = .ok (.ireturn, 1) := by decide +kernel
theorem dX1_lower_0 : decode cX1_lower 0 = .ok (.aload_n 0, 1) := by decide +kernel
theorem dX1_lower_1 : decode cX1_lower 1 = .ok (.getfield 27, 3) := by decide +kernel
theorem dX1_lower_4 : decode cX1_lower 4 = .ok (.invokevirtual 94, 3) := by decide +kernel
theorem dX1_lower_7 : decode cX1_lower 7 = .ok (.aload_n 0, 1) := by decide +kernel
theorem dX1_lower_8 : decode cX1_lower 8 = .ok (.iload_n 1, 1) := by decide +kernel
theorem dX1_lower_9 : decode cX1_lower 9 = .ok (.invokevirtual 97, 3) := by decide +kernel
theorem dX1_lower_12 : decode cX1_lower 12 = .ok (.iconst 0, 1) := by decide +kernel
theorem dX1_lower_13 : decode cX1_lower 13 = .ok (.istore_n 2, 1) := by decide +kernel
theorem dX1_lower_14 : decode cX1_lower 14 = .ok (.iload_n 2, 1) := by decide +kernel
theorem dX1_lower_15 : decode cX1_lower 15 = .ok (.aload_n 0, 1) := by decide +kernel
theorem dX1_lower_16 : decode cX1_lower 16 = .ok (.getfield 27, 3) := by decide +kernel
theorem dX1_lower_19 : decode cX1_lower 19 = .ok (.getfield 72, 3) := by decide +kernel
theorem dX1_lower_22 : decode cX1_lower 22 = .ok (.if_icmp .ge 60, 3) := by decide +kernel
theorem dX1_lower_25 : decode cX1_lower 25 = .ok (.iload_n 2, 1) := by decide +kernel
theorem dX1_lower_26 : decode cX1_lower 26 = .ok (.bipush 80, 2) := by decide +kernel
theorem dX1_lower_28 : decode cX1_lower 28 = .ok (.if_icmp .ge 54, 3) := by decide +kernel
theorem dX1_lower_31 : decode cX1_lower 31 = .ok (.aload_n 0, 1) := by decide +kernel
theorem dX1_lower_32 : decode cX1_lower 32 = .ok (.getfield 27, 3) := by decide +kernel
theorem dX1_lower_35 : decode cX1_lower 35 = .ok (.iload_n 2, 1) := by decide +kernel
theorem dX1_lower_36 : decode cX1_lower 36 = .ok (.invokevirtual 75, 3) := by decide +kernel
theorem dX1_lower_39 : decode cX1_lower 39 = .ok (.istore_n 3, 1) := by decide +kernel
theorem dX1_lower_40 : decode cX1_lower 40 = .ok (.iconst 0, 1) := by decide +kernel
theorem dX1_lower_41 : decode cX1_lower 41 = .ok (.istore 4, 2) := by decide +kernel
theorem dX1_lower_43 : decode cX1_lower 43 = .ok (.iload 4, 2) := by decide +kernel
theorem dX1_lower_45 : decode cX1_lower 45 = .ok (.aload_n 0, 1) := by decide +kernel
theorem dX1_lower_46 : decode cX1_lower 46 = .ok (.getfield 56, 3) := by decide +kernel
theorem dX1_lower_49 : decode cX1_lower 49 = .ok (.iload_n 3, 1) := by decide +kernel
theorem dX1_lower_50 : decode cX1_lower 50 = .ok (.invokevirtual 100, 3) := by decide +kernel
theorem dX1_lower_53 : decode cX1_lower 53 = .ok (.if_icmp .ge 23, 3) := by decide +kernel
theorem dX1_lower_56 : decode cX1_lower 56 = .ok (.aload_n 0, 1) := by decide +kernel
theorem dX1_lower_57 : decode cX1_lower 57 = .ok (.aload_n 0, 1) := by decide +kernel
theorem dX1_lower_58 : decode cX1_lower 58 = .ok (.getfield 56, 3) := by decide +kernel
theorem dX1_lower_61 : decode cX1_lower 61 = .ok (.iload_n 3, 1) := by decide +kernel
theorem dX1_lower_62 : decode cX1_lower 62 = .ok (.iload 4, 2) := by decide +kernel
theorem dX1_lower_64 : decode cX1_lower 64 = .ok (.invokevirtual 103, 3) := by decide +kernel
theorem dX1_lower_67 : decode cX1_lower 67 = .ok (.invokevirtual 97, 3) := by decide +kernel
theorem dX1_lower_70 : decode cX1_lower 70 = .ok (.iinc 4 1, 3) := by decide +kernel
theorem dX1_lower_73 : decode cX1_lower 73 = .ok (.goto (-30), 3) := by decide +kernel
theorem dX1_lower_76 : decode cX1_lower 76 = .ok (.iinc 2 1, 3) := by decide +kernel
theorem dX1_lower_79 : decode cX1_lower 79 = .ok (.goto (-65), 3) := by decide +kernel
theorem dX1_lower_82 : decode cX1_lower 82 = .ok (.return_, 1) := by decide +kernel
theorem dX1_lowerOnce_0 : decode cX1_lowerOnce 0 = .ok (.aload_n 0, 1) := by decide +kernel
theorem dX1_lowerOnce_1 : decode cX1_lowerOnce 1 = .ok (.iload_n 1, 1) := by decide +kernel
theorem dX1_lowerOnce_2 : decode cX1_lowerOnce 2 = .ok (.invokevirtual 88, 3) := by decide +kernel
theorem dX1_lowerOnce_5 : decode cX1_lowerOnce 5 = .ok (.ifCond .ne 4, 3) := by decide +kernel
theorem dX1_lowerOnce_8 : decode cX1_lowerOnce 8 = .ok (.return_, 1) := by decide +kernel
theorem dX1_lowerOnce_9 : decode cX1_lowerOnce 9 = .ok (.aload_n 0, 1) := by decide +kernel
theorem dX1_lowerOnce_10 : decode cX1_lowerOnce 10 = .ok (.getfield 9, 3) := by decide +kernel
theorem dX1_lowerOnce_13 : decode cX1_lowerOnce 13 = .ok (.iload_n 1, 1) := by decide +kernel
theorem dX1_lowerOnce_14 : decode cX1_lowerOnce 14 = .ok (.dup2, 1) := by decide +kernel
theorem dX1_lowerOnce_15 : decode cX1_lowerOnce 15 = .ok (.iaload, 1) := by decide +kernel
theorem dX1_lowerOnce_16 : decode cX1_lowerOnce 16 = .ok (.iconst 1, 1) := by decide +kernel
theorem dX1_lowerOnce_17 : decode cX1_lowerOnce 17 = .ok (.isub, 1) := by decide +kernel
theorem dX1_lowerOnce_18 : decode cX1_lowerOnce 18 = .ok (.iastore, 1) := by decide +kernel
theorem dX1_lowerOnce_19 : decode cX1_lowerOnce 19 = .ok (.aload_n 0, 1) := by decide +kernel
theorem dX1_lowerOnce_20 : decode cX1_lowerOnce 20 = .ok (.dup, 1) := by decide +kernel
theorem dX1_lowerOnce_21 : decode cX1_lowerOnce 21 = .ok (.getfield 69, 3) := by decide +kernel
theorem dX1_lowerOnce_24 : decode cX1_lowerOnce 24 = .ok (.iconst 1, 1) := by decide +kernel
theorem dX1_lowerOnce_25 : decode cX1_lowerOnce 25 = .ok (.iadd, 1) := by decide +kernel
theorem dX1_lowerOnce_26 : decode cX1_lowerOnce 26 = .ok (.putfield 69, 3) := by decide +kernel
theorem dX1_lowerOnce_29 : decode cX1_lowerOnce 29 = .ok (.aload_n 0, 1) := by decide +kernel
theorem dX1_lowerOnce_30 : decode cX1_lowerOnce 30 = .ok (.getfield 9, 3) := by decide +kernel
theorem dX1_lowerOnce_33 : decode cX1_lowerOnce 33 = .ok (.iload_n 1, 1) := by decide +kernel
theorem dX1_lowerOnce_34 : decode cX1_lowerOnce 34 = .ok (.iaload, 1) := by decide +kernel
theorem dX1_lowerOnce_35 : decode cX1_lowerOnce 35 = .ok (.ifCond .le 13, 3) := by decide +kernel
theorem dX1_lowerOnce_38 : decode cX1_lowerOnce 38 = .ok (.aload_n 0, 1) := by decide +kernel
theorem dX1_lowerOnce_39 : decode cX1_lowerOnce 39 = .ok (.getfield 15, 3) := by decide +kernel
theorem dX1_lowerOnce_42 : decode cX1_lowerOnce 42 = .ok (.iload_n 1, 1) := by decide +kernel
theorem dX1_lowerOnce_43 : decode cX1_lowerOnce 43 = .ok (.iconst 1, 1) := by decide +kernel
theorem dX1_lowerOnce_44 : decode cX1_lowerOnce 44 = .ok (.bastore, 1) := by decide +kernel
theorem dX1_lowerOnce_45 : decode cX1_lowerOnce 45 = .ok (.goto 16, 3) := by decide +kernel
theorem dX1_lowerOnce_48 : decode cX1_lowerOnce 48 = .ok (.aload_n 0, 1) := by decide +kernel
theorem dX1_lowerOnce_49 : decode cX1_lowerOnce 49 = .ok (.iload_n 1, 1) := by decide +kernel
theorem dX1_lowerOnce_50 : decode cX1_lowerOnce 50 = .ok (.invokevirtual 107, 3) := by decide +kernel
theorem dX1_lowerOnce_53 : decode cX1_lowerOnce 53 = .ok (.aload_n 0, 1) := by decide +kernel
theorem dX1_lowerOnce_54 : decode cX1_lowerOnce 54 = .ok (.getfield 27, 3) := by decide +kernel
theorem dX1_lowerOnce_57 : decode cX1_lowerOnce 57 = .ok (.iload_n 1, 1) := by decide +kernel
theorem dX1_lowerOnce_58 : decode cX1_lowerOnce 58 = .ok (.invokevirtual 110, 3) := by decide +kernel
theorem dX1_lowerOnce_61 : decode cX1_lowerOnce 61 = .ok (.return_, 1) := by decide +kernel
theorem dX1_findRings_0 : decode cX1_findRings 0 = .ok (.aload_n 0, 1) := by decide +kernel
theorem dX1_findRings_1 : decode cX1_findRings 1 = .ok (.getfield 31, 3) := by decide +kernel
theorem dX1_findRings_4 : decode cX1_findRings 4 = .ok (.invokevirtual 94, 3) := by decide +kernel
theorem dX1_findRings_7 : decode cX1_findRings 7 = .ok (.iconst 0, 1) := by decide +kernel
theorem dX1_findRings_8 : decode cX1_findRings 8 = .ok (.istore_n 1, 1) := by decide +kernel
theorem dX1_findRings_9 : decode cX1_findRings 9 = .ok (.iload_n 1, 1) := by decide +kernel
theorem dX1_findRings_10 : decode cX1_findRings 10 = .ok (.aload_n 0, 1) := by decide +kernel
theorem dX1_findRings_11 : decode cX1_findRings 11 = .ok (.getfield 56, 3) := by decide +kernel
theorem dX1_findRings_14 : decode cX1_findRings 14 = .ok (.getfield 113, 3) := by decide +kernel
theorem dX1_findRings_17 : decode cX1_findRings 17 = .ok (.if_icmp .ge 25, 3) := by decide +kernel
theorem dX1_findRings_20 : decode cX1_findRings 20 = .ok (.aload_n 0, 1) := by decide +kernel
theorem dX1_findRings_21 : decode cX1_findRings 21 = .ok (.iload_n 1, 1) := by decide +kernel
theorem dX1_findRings_22 : decode cX1_findRings 22 = .ok (.invokevirtual 116, 3) := by decide +kernel
theorem dX1_findRings_25 : decode cX1_findRings 25 = .ok (.ifCond .eq 11, 3) := by decide +kernel
theorem dX1_findRings_28 : decode cX1_findRings 28 = .ok (.aload_n 0, 1) := by decide +kernel
theorem dX1_findRings_29 : decode cX1_findRings 29 = .ok (.getfield 31, 3) := by decide +kernel
theorem dX1_findRings_32 : decode cX1_findRings 32 = .ok (.iload_n 1, 1) := by decide +kernel
theorem dX1_findRings_33 : decode cX1_findRings 33 = .ok (.invokevirtual 110, 3) := by decide +kernel
theorem dX1_findRings_36 : decode cX1_findRings 36 = .ok (.iinc 1 1, 3) := by decide +kernel
theorem dX1_findRings_39 : decode cX1_findRings 39 = .ok (.goto (-30), 3) := by decide +kernel
theorem dX1_findRings_42 : decode cX1_findRings 42 = .ok (.iconst 0, 1) := by decide +kernel
theorem dX1_findRings_43 : decode cX1_findRings 43 = .ok (.istore_n 1, 1) := by decide +kernel
theorem dX1_findRings_44 : decode cX1_findRings 44 = .ok (.iload_n 1, 1) := by decide +kernel
theorem dX1_findRings_45 : decode cX1_findRings 45 = .ok (.aload_n 0, 1) := by decide +kernel
theorem dX1_findRings_46 : decode cX1_findRings 46 = .ok (.getfield 31, 3) := by decide +kernel
theorem dX1_findRings_49 : decode cX1_findRings 49 = .ok (.getfield 72, 3) := by decide +kernel
theorem dX1_findRings_52 : decode cX1_findRings 52 = .ok (.if_icmp .ge 34, 3) := by decide +kernel
theorem dX1_findRings_55 : decode cX1_findRings 55 = .ok (.iload_n 1, 1) := by decide +kernel
theorem dX1_findRings_56 : decode cX1_findRings 56 = .ok (.bipush 80, 2) := by decide +kernel
theorem dX1_findRings_58 : decode cX1_findRings 58 = .ok (.if_icmp .ge 28, 3) := by decide +kernel
theorem dX1_findRings_61 : decode cX1_findRings 61 = .ok (.aload_n 0, 1) := by decide +kernel
theorem dX1_findRings_62 : decode cX1_findRings 62 = .ok (.getfield 56, 3) := by decide +kernel
theorem dX1_findRings_65 : decode cX1_findRings 65 = .ok (.aload_n 0, 1) := by decide +kernel
theorem dX1_findRings_66 : decode cX1_findRings 66 = .ok (.getfield 31, 3) := by decide +kernel
theorem dX1_findRings_69 : decode cX1_findRings 69 = .ok (.iload_n 1, 1) := by decide +kernel
theorem dX1_findRings_70 : decode cX1_findRings 70 = .ok (.invokevirtual 75, 3) := by decide +kernel
theorem dX1_findRings_73 : decode cX1_findRings 73 = .ok (.aload_n 0, 1) := by decide +kernel
theorem dX1_findRings_74 : decode cX1_findRings 74 = .ok (.getfield 31, 3) := by decide +kernel
theorem dX1_findRings_77 : decode cX1_findRings 77 = .ok (.invokevirtual 119, 3) := by decide +kernel
theorem dX1_findRings_80 : decode cX1_findRings 80 = .ok (.iinc 1 1, 3) := by decide +kernel
theorem dX1_findRings_83 : decode cX1_findRings 83 = .ok (.goto (-39), 3) := by decide +kernel
theorem dX1_findRings_86 : decode cX1_findRings 86 = .ok (.aload_n 0, 1) := by decide +kernel
theorem dX1_findRings_87 : decode cX1_findRings 87 = .ok (.invokevirtual 123, 3) := by decide +kernel
theorem dX1_findRings_90 : decode cX1_findRings 90 = .ok (.aload_n 0, 1) := by decide +kernel
theorem dX1_findRings_91 : decode cX1_findRings 91 = .ok (.invokevirtual 126, 3) := by decide +kernel
theorem dX1_findRings_94 : decode cX1_findRings 94 = .ok (.return_, 1) := by decide +kernel
theorem dX1_countNamedInside_0 : decode cX1_countNamedInside 0 = .ok (.aload_n 0, 1) := by decide +kernel
theorem dX1_countNamedInside_1 : decode cX1_countNamedInside 1 = .ok (.getfield 19, 3) := by decide +kernel
theorem dX1_countNamedInside_4 : decode cX1_countNamedInside 4 = .ok (.iconst 0, 1) := by decide +kernel
theorem dX1_countNamedInside_5 : decode cX1_countNamedInside 5 = .ok (.invokestatic 129, 3) := by decide +kernel
theorem dX1_countNamedInside_8 : decode cX1_countNamedInside 8 = .ok (.iconst 0, 1) := by decide +kernel
theorem dX1_countNamedInside_9 : decode cX1_countNamedInside 9 = .ok (.istore_n 1, 1) := by decide +kernel
theorem dX1_countNamedInside_10 : decode cX1_countNamedInside 10 = .ok (.iload_n 1, 1) := by decide +kernel
theorem dX1_countNamedInside_11 : decode cX1_countNamedInside 11 = .ok (.aload_n 0, 1) := by decide +kernel
theorem dX1_countNamedInside_12 : decode cX1_countNamedInside 12 = .ok (.getfield 31, 3) := by decide +kernel
theorem dX1_countNamedInside_15 : decode cX1_countNamedInside 15 = .ok (.getfield 72, 3) := by decide +kernel
theorem dX1_countNamedInside_18 : decode cX1_countNamedInside 18 = .ok (.if_icmp .ge 72, 3) := by decide +kernel
theorem dX1_countNamedInside_21 : decode cX1_countNamedInside 21 = .ok (.aload_n 0, 1) := by decide +kernel
theorem dX1_countNamedInside_22 : decode cX1_countNamedInside 22 = .ok (.getfield 31, 3) := by decide +kernel
theorem dX1_countNamedInside_25 : decode cX1_countNamedInside 25 = .ok (.iload_n 1, 1) := by decide +kernel
theorem dX1_countNamedInside_26 : decode cX1_countNamedInside 26 = .ok (.invokevirtual 75, 3) := by decide +kernel
theorem dX1_countNamedInside_29 : decode cX1_countNamedInside 29 = .ok (.istore_n 2, 1) := by decide +kernel
theorem dX1_countNamedInside_30 : decode cX1_countNamedInside 30 = .ok (.iconst 0, 1) := by decide +kernel
theorem dX1_countNamedInside_31 : decode cX1_countNamedInside 31 = .ok (.istore_n 3, 1) := by decide +kernel
theorem dX1_countNamedInside_32 : decode cX1_countNamedInside 32 = .ok (.iload_n 3, 1) := by decide +kernel
theorem dX1_countNamedInside_33 : decode cX1_countNamedInside 33 = .ok (.aload_n 0, 1) := by decide +kernel
theorem dX1_countNamedInside_34 : decode cX1_countNamedInside 34 = .ok (.getfield 56, 3) := by decide +kernel
theorem dX1_countNamedInside_37 : decode cX1_countNamedInside 37 = .ok (.iload_n 2, 1) := by decide +kernel
theorem dX1_countNamedInside_38 : decode cX1_countNamedInside 38 = .ok (.invokevirtual 100, 3) := by decide +kernel
theorem dX1_countNamedInside_41 : decode cX1_countNamedInside 41 = .ok (.if_icmp .ge 43, 3) := by decide +kernel
theorem dX1_countNamedInside_44 : decode cX1_countNamedInside 44 = .ok (.aload_n 0, 1) := by decide +kernel
theorem dX1_countNamedInside_45 : decode cX1_countNamedInside 45 = .ok (.getfield 56, 3) := by decide +kernel
theorem dX1_countNamedInside_48 : decode cX1_countNamedInside 48 = .ok (.iload_n 2, 1) := by decide +kernel
theorem dX1_countNamedInside_49 : decode cX1_countNamedInside 49 = .ok (.iload_n 3, 1) := by decide +kernel
theorem dX1_countNamedInside_50 : decode cX1_countNamedInside 50 = .ok (.invokevirtual 103, 3) := by decide +kernel
theorem dX1_countNamedInside_53 : decode cX1_countNamedInside 53 = .ok (.istore 4, 2) := by decide +kernel
theorem dX1_countNamedInside_55 : decode cX1_countNamedInside 55 = .ok (.aload_n 0, 1) := by decide +kernel
theorem dX1_countNamedInside_56 : decode cX1_countNamedInside 56 = .ok (.getfield 56, 3) := by decide +kernel
theorem dX1_countNamedInside_59 : decode cX1_countNamedInside 59 = .ok (.iload 4, 2) := by decide +kernel
theorem dX1_countNamedInside_61 : decode cX1_countNamedInside 61 = .ok (.invokevirtual 60, 3) := by decide +kernel
theorem dX1_countNamedInside_64 : decode cX1_countNamedInside 64 = .ok (.ifCond .eq 14, 3) := by decide +kernel
theorem dX1_countNamedInside_67 : decode cX1_countNamedInside 67 = .ok (.aload_n 0, 1) := by decide +kernel
theorem dX1_countNamedInside_68 : decode cX1_countNamedInside 68 = .ok (.getfield 19, 3) := by decide +kernel
theorem dX1_countNamedInside_71 : decode cX1_countNamedInside 71 = .ok (.iload 4, 2) := by decide +kernel
theorem dX1_countNamedInside_73 : decode cX1_countNamedInside 73 = .ok (.dup2, 1) := by decide +kernel
theorem dX1_countNamedInside_74 : decode cX1_countNamedInside 74 = .ok (.iaload, 1) := by decide +kernel
theorem dX1_countNamedInside_75 : decode cX1_countNamedInside 75 = .ok (.iconst 1, 1) := by decide +kernel
theorem dX1_countNamedInside_76 : decode cX1_countNamedInside 76 = .ok (.iadd, 1) := by decide +kernel
theorem dX1_countNamedInside_77 : decode cX1_countNamedInside 77 = .ok (.iastore, 1) := by decide +kernel
theorem dX1_countNamedInside_78 : decode cX1_countNamedInside 78 = .ok (.iinc 3 1, 3) := by decide +kernel
theorem dX1_countNamedInside_81 : decode cX1_countNamedInside 81 = .ok (.goto (-49), 3) := by decide +kernel
theorem dX1_countNamedInside_84 : decode cX1_countNamedInside 84 = .ok (.iinc 1 1, 3) := by decide +kernel
theorem dX1_countNamedInside_87 : decode cX1_countNamedInside 87 = .ok (.goto (-77), 3) := by decide +kernel
theorem dX1_countNamedInside_90 : decode cX1_countNamedInside 90 = .ok (.return_, 1) := by decide +kernel
theorem dX1_findLeftOut_0 : decode cX1_findLeftOut 0 = .ok (.aload_n 0, 1) := by decide +kernel
theorem dX1_findLeftOut_1 : decode cX1_findLeftOut 1 = .ok (.getfield 34, 3) := by decide +kernel
theorem dX1_findLeftOut_4 : decode cX1_findLeftOut 4 = .ok (.invokevirtual 94, 3) := by decide +kernel
theorem dX1_findLeftOut_7 : decode cX1_findLeftOut 7 = .ok (.iconst 0, 1) := by decide +kernel
theorem dX1_findLeftOut_8 : decode cX1_findLeftOut 8 = .ok (.istore_n 1, 1) := by decide +kernel
theorem dX1_findLeftOut_9 : decode cX1_findLeftOut 9 = .ok (.iload_n 1, 1) := by decide +kernel
theorem dX1_findLeftOut_10 : decode cX1_findLeftOut 10 = .ok (.aload_n 0, 1) := by decide +kernel
theorem dX1_findLeftOut_11 : decode cX1_findLeftOut 11 = .ok (.getfield 31, 3) := by decide +kernel
theorem dX1_findLeftOut_14 : decode cX1_findLeftOut 14 = .ok (.getfield 72, 3) := by decide +kernel
theorem dX1_findLeftOut_17 : decode cX1_findLeftOut 17 = .ok (.if_icmp .ge 52, 3) := by decide +kernel
theorem dX1_findLeftOut_20 : decode cX1_findLeftOut 20 = .ok (.aload_n 0, 1) := by decide +kernel
theorem dX1_findLeftOut_21 : decode cX1_findLeftOut 21 = .ok (.getfield 31, 3) := by decide +kernel
theorem dX1_findLeftOut_24 : decode cX1_findLeftOut 24 = .ok (.iload_n 1, 1) := by decide +kernel
theorem dX1_findLeftOut_25 : decode cX1_findLeftOut 25 = .ok (.invokevirtual 75, 3) := by decide +kernel
theorem dX1_findLeftOut_28 : decode cX1_findLeftOut 28 = .ok (.istore_n 2, 1) := by decide +kernel
theorem dX1_findLeftOut_29 : decode cX1_findLeftOut 29 = .ok (.aload_n 0, 1) := by decide +kernel
theorem dX1_findLeftOut_30 : decode cX1_findLeftOut 30 = .ok (.getfield 56, 3) := by decide +kernel
theorem dX1_findLeftOut_33 : decode cX1_findLeftOut 33 = .ok (.iload_n 2, 1) := by decide +kernel
theorem dX1_findLeftOut_34 : decode cX1_findLeftOut 34 = .ok (.invokevirtual 60, 3) := by decide +kernel
theorem dX1_findLeftOut_37 : decode cX1_findLeftOut 37 = .ok (.ifCond .eq 26, 3) := by decide +kernel
theorem dX1_findLeftOut_40 : decode cX1_findLeftOut 40 = .ok (.aload_n 0, 1) := by decide +kernel
theorem dX1_findLeftOut_41 : decode cX1_findLeftOut 41 = .ok (.getfield 9, 3) := by decide +kernel
theorem dX1_findLeftOut_44 : decode cX1_findLeftOut 44 = .ok (.iload_n 2, 1) := by decide +kernel
theorem dX1_findLeftOut_45 : decode cX1_findLeftOut 45 = .ok (.iaload, 1) := by decide +kernel
theorem dX1_findLeftOut_46 : decode cX1_findLeftOut 46 = .ok (.aload_n 0, 1) := by decide +kernel
theorem dX1_findLeftOut_47 : decode cX1_findLeftOut 47 = .ok (.getfield 19, 3) := by decide +kernel
theorem dX1_findLeftOut_50 : decode cX1_findLeftOut 50 = .ok (.iload_n 2, 1) := by decide +kernel
theorem dX1_findLeftOut_51 : decode cX1_findLeftOut 51 = .ok (.iaload, 1) := by decide +kernel
theorem dX1_findLeftOut_52 : decode cX1_findLeftOut 52 = .ok (.if_icmp .le 11, 3) := by decide +kernel
theorem dX1_findLeftOut_55 : decode cX1_findLeftOut 55 = .ok (.aload_n 0, 1) := by decide +kernel
theorem dX1_findLeftOut_56 : decode cX1_findLeftOut 56 = .ok (.getfield 34, 3) := by decide +kernel
theorem dX1_findLeftOut_59 : decode cX1_findLeftOut 59 = .ok (.iload_n 2, 1) := by decide +kernel
theorem dX1_findLeftOut_60 : decode cX1_findLeftOut 60 = .ok (.invokevirtual 110, 3) := by decide +kernel
theorem dX1_findLeftOut_63 : decode cX1_findLeftOut 63 = .ok (.iinc 1 1, 3) := by decide +kernel
theorem dX1_findLeftOut_66 : decode cX1_findLeftOut 66 = .ok (.goto (-57), 3) := by decide +kernel
theorem dX1_findLeftOut_69 : decode cX1_findLeftOut 69 = .ok (.iconst 0, 1) := by decide +kernel
theorem dX1_findLeftOut_70 : decode cX1_findLeftOut 70 = .ok (.istore_n 1, 1) := by decide +kernel
theorem dX1_findLeftOut_71 : decode cX1_findLeftOut 71 = .ok (.iload_n 1, 1) := by decide +kernel
theorem dX1_findLeftOut_72 : decode cX1_findLeftOut 72 = .ok (.aload_n 0, 1) := by decide +kernel
theorem dX1_findLeftOut_73 : decode cX1_findLeftOut 73 = .ok (.getfield 34, 3) := by decide +kernel
theorem dX1_findLeftOut_76 : decode cX1_findLeftOut 76 = .ok (.getfield 72, 3) := by decide +kernel
theorem dX1_findLeftOut_79 : decode cX1_findLeftOut 79 = .ok (.if_icmp .ge 34, 3) := by decide +kernel
theorem dX1_findLeftOut_82 : decode cX1_findLeftOut 82 = .ok (.iload_n 1, 1) := by decide +kernel
theorem dX1_findLeftOut_83 : decode cX1_findLeftOut 83 = .ok (.bipush 80, 2) := by decide +kernel
theorem dX1_findLeftOut_85 : decode cX1_findLeftOut 85 = .ok (.if_icmp .ge 28, 3) := by decide +kernel
theorem dX1_findLeftOut_88 : decode cX1_findLeftOut 88 = .ok (.aload_n 0, 1) := by decide +kernel
theorem dX1_findLeftOut_89 : decode cX1_findLeftOut 89 = .ok (.getfield 56, 3) := by decide +kernel
theorem dX1_findLeftOut_92 : decode cX1_findLeftOut 92 = .ok (.aload_n 0, 1) := by decide +kernel
theorem dX1_findLeftOut_93 : decode cX1_findLeftOut 93 = .ok (.getfield 34, 3) := by decide +kernel
theorem dX1_findLeftOut_96 : decode cX1_findLeftOut 96 = .ok (.iload_n 1, 1) := by decide +kernel
theorem dX1_findLeftOut_97 : decode cX1_findLeftOut 97 = .ok (.invokevirtual 75, 3) := by decide +kernel
theorem dX1_findLeftOut_100 : decode cX1_findLeftOut 100 = .ok (.aload_n 0, 1) := by decide +kernel
theorem dX1_findLeftOut_101 : decode cX1_findLeftOut 101 = .ok (.getfield 34, 3) := by decide +kernel
theorem dX1_findLeftOut_104 : decode cX1_findLeftOut 104 = .ok (.invokevirtual 119, 3) := by decide +kernel
theorem dX1_findLeftOut_107 : decode cX1_findLeftOut 107 = .ok (.iinc 1 1, 3) := by decide +kernel
theorem dX1_findLeftOut_110 : decode cX1_findLeftOut 110 = .ok (.goto (-39), 3) := by decide +kernel
theorem dX1_findLeftOut_113 : decode cX1_findLeftOut 113 = .ok (.return_, 1) := by decide +kernel
theorem dX1_letRingGo_0 : decode cX1_letRingGo 0 = .ok (.aload_n 0, 1) := by decide +kernel
theorem dX1_letRingGo_1 : decode cX1_letRingGo 1 = .ok (.iload_n 1, 1) := by decide +kernel
theorem dX1_letRingGo_2 : decode cX1_letRingGo 2 = .ok (.invokevirtual 107, 3) := by decide +kernel
theorem dX1_letRingGo_5 : decode cX1_letRingGo 5 = .ok (.iconst 0, 1) := by decide +kernel
theorem dX1_letRingGo_6 : decode cX1_letRingGo 6 = .ok (.istore_n 2, 1) := by decide +kernel
theorem dX1_letRingGo_7 : decode cX1_letRingGo 7 = .ok (.iload_n 2, 1) := by decide +kernel
theorem dX1_letRingGo_8 : decode cX1_letRingGo 8 = .ok (.aload_n 0, 1) := by decide +kernel
theorem dX1_letRingGo_9 : decode cX1_letRingGo 9 = .ok (.getfield 56, 3) := by decide +kernel
theorem dX1_letRingGo_12 : decode cX1_letRingGo 12 = .ok (.iload_n 1, 1) := by decide +kernel
theorem dX1_letRingGo_13 : decode cX1_letRingGo 13 = .ok (.invokevirtual 100, 3) := by decide +kernel
theorem dX1_letRingGo_16 : decode cX1_letRingGo 16 = .ok (.if_icmp .ge 37, 3) := by decide +kernel
theorem dX1_letRingGo_19 : decode cX1_letRingGo 19 = .ok (.aload_n 0, 1) := by decide +kernel
theorem dX1_letRingGo_20 : decode cX1_letRingGo 20 = .ok (.getfield 56, 3) := by decide +kernel
theorem dX1_letRingGo_23 : decode cX1_letRingGo 23 = .ok (.iload_n 1, 1) := by decide +kernel
theorem dX1_letRingGo_24 : decode cX1_letRingGo 24 = .ok (.iload_n 2, 1) := by decide +kernel
theorem dX1_letRingGo_25 : decode cX1_letRingGo 25 = .ok (.invokevirtual 103, 3) := by decide +kernel
theorem dX1_letRingGo_28 : decode cX1_letRingGo 28 = .ok (.istore_n 3, 1) := by decide +kernel
theorem dX1_letRingGo_29 : decode cX1_letRingGo 29 = .ok (.aload_n 0, 1) := by decide +kernel
theorem dX1_letRingGo_30 : decode cX1_letRingGo 30 = .ok (.iload_n 3, 1) := by decide +kernel
theorem dX1_letRingGo_31 : decode cX1_letRingGo 31 = .ok (.invokevirtual 88, 3) := by decide +kernel
theorem dX1_letRingGo_34 : decode cX1_letRingGo 34 = .ok (.ifCond .eq 13, 3) := by decide +kernel
theorem dX1_letRingGo_37 : decode cX1_letRingGo 37 = .ok (.aload_n 0, 1) := by decide +kernel
theorem dX1_letRingGo_38 : decode cX1_letRingGo 38 = .ok (.getfield 9, 3) := by decide +kernel
theorem dX1_letRingGo_41 : decode cX1_letRingGo 41 = .ok (.iload_n 3, 1) := by decide +kernel
theorem dX1_letRingGo_42 : decode cX1_letRingGo 42 = .ok (.dup2, 1) := by decide +kernel
theorem dX1_letRingGo_43 : decode cX1_letRingGo 43 = .ok (.iaload, 1) := by decide +kernel
theorem dX1_letRingGo_44 : decode cX1_letRingGo 44 = .ok (.iconst 1, 1) := by decide +kernel
theorem dX1_letRingGo_45 : decode cX1_letRingGo 45 = .ok (.isub, 1) := by decide +kernel
theorem dX1_letRingGo_46 : decode cX1_letRingGo 46 = .ok (.iastore, 1) := by decide +kernel
theorem dX1_letRingGo_47 : decode cX1_letRingGo 47 = .ok (.iinc 2 1, 3) := by decide +kernel
theorem dX1_letRingGo_50 : decode cX1_letRingGo 50 = .ok (.goto (-43), 3) := by decide +kernel
theorem dX1_letRingGo_53 : decode cX1_letRingGo 53 = .ok (.return_, 1) := by decide +kernel
theorem dX2_init_0 : decode cX2_init 0 = .ok (.aload_n 0, 1) := by decide +kernel
theorem dX2_init_1 : decode cX2_init 1 = .ok (.invokespecial 3, 3) := by decide +kernel
theorem dX2_init_4 : decode cX2_init 4 = .ok (.aload_n 0, 1) := by decide +kernel
theorem dX2_init_5 : decode cX2_init 5 = .ok (.bipush 80, 2) := by decide +kernel
theorem dX2_init_7 : decode cX2_init 7 = .ok (.newarray .int, 2) := by decide +kernel
theorem dX2_init_9 : decode cX2_init 9 = .ok (.putfield 9, 3) := by decide +kernel
theorem dX2_init_12 : decode cX2_init 12 = .ok (.aload_n 0, 1) := by decide +kernel
theorem dX2_init_13 : decode cX2_init 13 = .ok (.sipush 240, 3) := by decide +kernel
theorem dX2_init_16 : decode cX2_init 16 = .ok (.newarray .int, 2) := by decide +kernel
theorem dX2_init_18 : decode cX2_init 18 = .ok (.putfield 15, 3) := by decide +kernel
theorem dX2_init_21 : decode cX2_init 21 = .ok (.aload_n 0, 1) := by decide +kernel
theorem dX2_init_22 : decode cX2_init 22 = .ok (.bipush 6, 2) := by decide +kernel
theorem dX2_init_24 : decode cX2_init 24 = .ok (.newarray .int, 2) := by decide +kernel
theorem dX2_init_26 : decode cX2_init 26 = .ok (.putfield 18, 3) := by decide +kernel
theorem dX2_init_29 : decode cX2_init 29 = .ok (.aload_n 0, 1) := by decide +kernel
theorem dX2_init_30 : decode cX2_init 30 = .ok (.bipush 80, 2) := by decide +kernel
theorem dX2_init_32 : decode cX2_init 32 = .ok (.newarray .int, 2) := by decide +kernel
theorem dX2_init_34 : decode cX2_init 34 = .ok (.putfield 21, 3) := by decide +kernel
theorem dX2_init_37 : decode cX2_init 37 = .ok (.aload_n 0, 1) := by decide +kernel
theorem dX2_init_38 : decode cX2_init 38 = .ok (.new 24, 3) := by decide +kernel
theorem dX2_init_41 : decode cX2_init 41 = .ok (.dup, 1) := by decide +kernel
theorem dX2_init_42 : decode cX2_init 42 = .ok (.invokespecial 26, 3) := by decide +kernel
theorem dX2_init_45 : decode cX2_init 45 = .ok (.putfield 27, 3) := by decide +kernel
theorem dX2_init_48 : decode cX2_init 48 = .ok (.aload_n 0, 1) := by decide +kernel
theorem dX2_init_49 : decode cX2_init 49 = .ok (.new 24, 3) := by decide +kernel
theorem dX2_init_52 : decode cX2_init 52 = .ok (.dup, 1) := by decide +kernel
theorem dX2_init_53 : decode cX2_init 53 = .ok (.invokespecial 26, 3) := by decide +kernel
theorem dX2_init_56 : decode cX2_init 56 = .ok (.putfield 31, 3) := by decide +kernel
theorem dX2_init_59 : decode cX2_init 59 = .ok (.iconst 0, 1) := by decide +kernel
theorem dX2_init_60 : decode cX2_init 60 = .ok (.istore_n 1, 1) := by decide +kernel
theorem dX2_init_61 : decode cX2_init 61 = .ok (.iload_n 1, 1) := by decide +kernel
theorem dX2_init_62 : decode cX2_init 62 = .ok (.bipush 6, 2) := by decide +kernel
theorem dX2_init_64 : decode cX2_init 64 = .ok (.if_icmp .ge 16, 3) := by decide +kernel
theorem dX2_init_67 : decode cX2_init 67 = .ok (.aload_n 0, 1) := by decide +kernel
theorem dX2_init_68 : decode cX2_init 68 = .ok (.getfield 18, 3) := by decide +kernel
theorem dX2_init_71 : decode cX2_init 71 = .ok (.iload_n 1, 1) := by decide +kernel
theorem dX2_init_72 : decode cX2_init 72 = .ok (.iconst (-1), 1) := by decide +kernel
theorem dX2_init_73 : decode cX2_init 73 = .ok (.iastore, 1) := by decide +kernel
theorem dX2_init_74 : decode cX2_init 74 = .ok (.iinc 1 1, 3) := by decide +kernel
theorem dX2_init_77 : decode cX2_init 77 = .ok (.goto (-16), 3) := by decide +kernel
theorem dX2_init_80 : decode cX2_init 80 = .ok (.return_, 1) := by decide +kernel
theorem dX2_startAnew_0 : decode cX2_startAnew 0 = .ok (.aload_n 0, 1) := by decide +kernel
theorem dX2_startAnew_1 : decode cX2_startAnew 1 = .ok (.iconst 0, 1) := by decide +kernel
theorem dX2_startAnew_2 : decode cX2_startAnew 2 = .ok (.putfield 34, 3) := by decide +kernel
theorem dX2_startAnew_5 : decode cX2_startAnew 5 = .ok (.aload_n 0, 1) := by decide +kernel
theorem dX2_startAnew_6 : decode cX2_startAnew 6 = .ok (.getfield 18, 3) := by decide +kernel
theorem dX2_startAnew_9 : decode cX2_startAnew 9 = .ok (.iconst (-1), 1) := by decide +kernel
theorem dX2_startAnew_10 : decode cX2_startAnew 10 = .ok (.invokestatic 38, 3) := by decide +kernel
theorem dX2_startAnew_13 : decode cX2_startAnew 13 = .ok (.aload_n 0, 1) := by decide +kernel
theorem dX2_startAnew_14 : decode cX2_startAnew 14 = .ok (.getfield 27, 3) := by decide +kernel
theorem dX2_startAnew_17 : decode cX2_startAnew 17 = .ok (.invokevirtual 44, 3) := by decide +kernel
theorem dX2_startAnew_20 : decode cX2_startAnew 20 = .ok (.return_, 1) := by decide +kernel
theorem dX2_addThing_0 : decode cX2_addThing 0 = .ok (.aload_n 0, 1) := by decide +kernel
theorem dX2_addThing_1 : decode cX2_addThing 1 = .ok (.getfield 34, 3) := by decide +kernel
theorem dX2_addThing_4 : decode cX2_addThing 4 = .ok (.bipush 80, 2) := by decide +kernel
theorem dX2_addThing_6 : decode cX2_addThing 6 = .ok (.if_icmp .lt 5, 3) := by decide +kernel
theorem dX2_addThing_9 : decode cX2_addThing 9 = .ok (.iconst (-1), 1) := by decide +kernel
theorem dX2_addThing_10 : decode cX2_addThing 10 = .ok (.ireturn, 1) := by decide +kernel
theorem dX2_addThing_11 : decode cX2_addThing 11 = .ok (.aload_n 0, 1) := by decide +kernel
theorem dX2_addThing_12 : decode cX2_addThing 12 = .ok (.getfield 34, 3) := by decide +kernel
theorem dX2_addThing_15 : decode cX2_addThing 15 = .ok (.istore_n 2, 1) := by decide +kernel
theorem dX2_addThing_16 : decode cX2_addThing 16 = .ok (.aload_n 0, 1) := by decide +kernel
theorem dX2_addThing_17 : decode cX2_addThing 17 = .ok (.dup, 1) := by decide +kernel
theorem dX2_addThing_18 : decode cX2_addThing 18 = .ok (.getfield 34, 3) := by decide +kernel
theorem dX2_addThing_21 : decode cX2_addThing 21 = .ok (.iconst 1, 1) := by decide +kernel
theorem dX2_addThing_22 : decode cX2_addThing 22 = .ok (.iadd, 1) := by decide +kernel
theorem dX2_addThing_23 : decode cX2_addThing 23 = .ok (.putfield 34, 3) := by decide +kernel
theorem dX2_addThing_26 : decode cX2_addThing 26 = .ok (.aload_n 0, 1) := by decide +kernel
theorem dX2_addThing_27 : decode cX2_addThing 27 = .ok (.getfield 9, 3) := by decide +kernel
theorem dX2_addThing_30 : decode cX2_addThing 30 = .ok (.iload_n 2, 1) := by decide +kernel
theorem dX2_addThing_31 : decode cX2_addThing 31 = .ok (.iload_n 1, 1) := by decide +kernel
theorem dX2_addThing_32 : decode cX2_addThing 32 = .ok (.iastore, 1) := by decide +kernel
theorem dX2_addThing_33 : decode cX2_addThing 33 = .ok (.aload_n 0, 1) := by decide +kernel
theorem dX2_addThing_34 : decode cX2_addThing 34 = .ok (.getfield 21, 3) := by decide +kernel
theorem dX2_addThing_37 : decode cX2_addThing 37 = .ok (.iload_n 2, 1) := by decide +kernel
theorem dX2_addThing_38 : decode cX2_addThing 38 = .ok (.iconst (-1), 1) := by decide +kernel
theorem dX2_addThing_39 : decode cX2_addThing 39 = .ok (.iastore, 1) := by decide +kernel
theorem dX2_addThing_40 : decode cX2_addThing 40 = .ok (.iconst 0, 1) := by decide +kernel
theorem dX2_addThing_41 : decode cX2_addThing 41 = .ok (.istore_n 3, 1) := by decide +kernel
theorem dX2_addThing_42 : decode cX2_addThing 42 = .ok (.iload_n 3, 1) := by decide +kernel
theorem dX2_addThing_43 : decode cX2_addThing 43 = .ok (.iconst 3, 1) := by decide +kernel
theorem dX2_addThing_44 : decode cX2_addThing 44 = .ok (.if_icmp .ge 20, 3) := by decide +kernel
theorem dX2_addThing_47 : decode cX2_addThing 47 = .ok (.aload_n 0, 1) := by decide +kernel
theorem dX2_addThing_48 : decode cX2_addThing 48 = .ok (.getfield 15, 3) := by decide +kernel
theorem dX2_addThing_51 : decode cX2_addThing 51 = .ok (.iload_n 2, 1) := by decide +kernel
theorem dX2_addThing_52 : decode cX2_addThing 52 = .ok (.iconst 3, 1) := by decide +kernel
theorem dX2_addThing_53 : decode cX2_addThing 53 = .ok (.imul, 1) := by decide +kernel
theorem dX2_addThing_54 : decode cX2_addThing 54 = .ok (.iload_n 3, 1) := by decide +kernel
theorem dX2_addThing_55 : decode cX2_addThing 55 = .ok (.iadd, 1) := by decide +kernel
theorem dX2_addThing_56 : decode cX2_addThing 56 = .ok (.iconst (-1), 1) := by decide +kernel
theorem dX2_addThing_57 : decode cX2_addThing 57 = .ok (.iastore, 1) := by decide +kernel
theorem dX2_addThing_58 : decode cX2_addThing 58 = .ok (.iinc 3 1, 3) := by decide +kernel
theorem dX2_addThing_61 : decode cX2_addThing 61 = .ok (.goto (-19), 3) := by decide +kernel
theorem dX2_addThing_64 : decode cX2_addThing 64 = .ok (.iload_n 2, 1) := by decide +kernel
theorem dX2_addThing_65 : decode cX2_addThing 65 = .ok (.ireturn, 1) := by decide +kernel
theorem dX2_isThing_0 : decode cX2_isThing 0 = .ok (.iload_n 1, 1) := by decide +kernel
theorem dX2_isThing_1 : decode cX2_isThing 1 = .ok (.ifCond .lt 15, 3) := by decide +kernel
theorem dX2_isThing_4 : decode cX2_isThing 4 = .ok (.iload_n 1, 1) := by decide +kernel
theorem dX2_isThing_5 : decode cX2_isThing 5 = .ok (.aload_n 0, 1) := by decide +kernel
theorem dX2_isThing_6 : decode cX2_isThing 6 = .ok (.getfield 34, 3) := by decide +kernel
theorem dX2_isThing_9 : decode cX2_isThing 9 = .ok (.if_icmp .ge 7, 3) := by decide +kernel
theorem dX2_isThing_12 : decode cX2_isThing 12 = .ok (.iconst 1, 1) := by decide +kernel
theorem dX2_isThing_13 : decode cX2_isThing 13 = .ok (.goto 4, 3) := by decide +kernel
theorem dX2_isThing_16 : decode cX2_isThing 16 = .ok (.iconst 0, 1) := by decide +kernel
theorem dX2_isThing_17 : decode cX2_isThing 17 = .ok (.ireturn, 1) := by decide +kernel
theorem dX2_isReached_0 : decode cX2_isReached 0 = .ok (.iload_n 1, 1) := by decide +kernel
theorem dX2_isReached_1 : decode cX2_isReached 1 = .ok (.ifCond .lt 25, 3) := by decide +kernel
theorem dX2_isReached_4 : decode cX2_isReached 4 = .ok (.iload_n 1, 1) := by decide +kernel
theorem dX2_isReached_5 : decode cX2_isReached 5 = .ok (.aload_n 0, 1) := by decide +kernel
theorem dX2_isReached_6 : decode cX2_isReached 6 = .ok (.getfield 34, 3) := by decide +kernel
theorem dX2_isReached_9 : decode cX2_isReached 9 = .ok (.if_icmp .ge 17, 3) := by decide +kernel
theorem dX2_isReached_12 : decode cX2_isReached 12 = .ok (.aload_n 0, 1) := by decide +kernel
theorem dX2_isReached_13 : decode cX2_isReached 13 = .ok (.getfield 21, 3) := by decide +kernel
theorem dX2_isReached_16 : decode cX2_isReached 16 = .ok (.iload_n 1, 1) := by decide +kernel
theorem dX2_isReached_17 : decode cX2_isReached 17 = .ok (.iaload, 1) := by decide +kernel
theorem dX2_isReached_18 : decode cX2_isReached 18 = .ok (.iconst (-1), 1) := by decide +kernel
theorem dX2_isReached_19 : decode cX2_isReached 19 = .ok (.if_icmp .eq 7, 3) := by decide +kernel
theorem dX2_isReached_22 : decode cX2_isReached 22 = .ok (.iconst 1, 1) := by decide +kernel
theorem dX2_isReached_23 : decode cX2_isReached 23 = .ok (.goto 4, 3) := by decide +kernel
theorem dX2_isReached_26 : decode cX2_isReached 26 = .ok (.iconst 0, 1) := by decide +kernel
theorem dX2_isReached_27 : decode cX2_isReached 27 = .ok (.ireturn, 1) := by decide +kernel
theorem dX2_hasField_0 : decode cX2_hasField 0 = .ok (.iload_n 1, 1) := by decide +kernel
theorem dX2_hasField_1 : decode cX2_hasField 1 = .ok (.ifCond .lt 29, 3) := by decide +kernel
theorem dX2_hasField_4 : decode cX2_hasField 4 = .ok (.iload_n 1, 1) := by decide +kernel
theorem dX2_hasField_5 : decode cX2_hasField 5 = .ok (.aload_n 0, 1) := by decide +kernel
theorem dX2_hasField_6 : decode cX2_hasField 6 = .ok (.getfield 34, 3) := by decide +kernel
theorem dX2_hasField_9 : decode cX2_hasField 9 = .ok (.if_icmp .ge 21, 3) := by decide +kernel
theorem dX2_hasField_12 : decode cX2_hasField 12 = .ok (.iload_n 2, 1) := by decide +kernel
theorem dX2_hasField_13 : decode cX2_hasField 13 = .ok (.ifCond .lt 17, 3) := by decide +kernel
theorem dX2_hasField_16 : decode cX2_hasField 16 = .ok (.iload_n 2, 1) := by decide +kernel
theorem dX2_hasField_17 : decode cX2_hasField 17 = .ok (.aload_n 0, 1) := by decide +kernel
theorem dX2_hasField_18 : decode cX2_hasField 18 = .ok (.getfield 9, 3) := by decide +kernel
theorem dX2_hasField_21 : decode cX2_hasField 21 = .ok (.iload_n 1, 1) := by decide +kernel
theorem dX2_hasField_22 : decode cX2_hasField 22 = .ok (.iaload, 1) := by decide +kernel
theorem dX2_hasField_23 : decode cX2_hasField 23 = .ok (.if_icmp .ge 7, 3) := by decide +kernel
theorem dX2_hasField_26 : decode cX2_hasField 26 = .ok (.iconst 1, 1) := by decide +kernel
theorem dX2_hasField_27 : decode cX2_hasField 27 = .ok (.goto 4, 3) := by decide +kernel
theorem dX2_hasField_30 : decode cX2_hasField 30 = .ok (.iconst 0, 1) := by decide +kernel
theorem dX2_hasField_31 : decode cX2_hasField 31 = .ok (.ireturn, 1) := by decide +kernel
theorem dX2_fieldsOf_0 : decode cX2_fieldsOf 0 = .ok (.iload_n 1, 1) := by decide +kernel
theorem dX2_fieldsOf_1 : decode cX2_fieldsOf 1 = .ok (.ifCond .lt 20, 3) := by decide +kernel
theorem dX2_fieldsOf_4 : decode cX2_fieldsOf 4 = .ok (.iload_n 1, 1) := by decide +kernel
theorem dX2_fieldsOf_5 : decode cX2_fieldsOf 5 = .ok (.aload_n 0, 1) := by decide +kernel
theorem dX2_fieldsOf_6 : decode cX2_fieldsOf 6 = .ok (.getfield 34, 3) := by decide +kernel
theorem dX2_fieldsOf_9 : decode cX2_fieldsOf 9 = .ok (.if_icmp .ge 12, 3) := by decide +kernel
theorem dX2_fieldsOf_12 : decode cX2_fieldsOf 12 = .ok (.aload_n 0, 1) := by decide +kernel
theorem dX2_fieldsOf_13 : decode cX2_fieldsOf 13 = .ok (.getfield 9, 3) := by decide +kernel
theorem dX2_fieldsOf_16 : decode cX2_fieldsOf 16 = .ok (.iload_n 1, 1) := by decide +kernel
theorem dX2_fieldsOf_17 : decode cX2_fieldsOf 17 = .ok (.iaload, 1) := by decide +kernel
theorem dX2_fieldsOf_18 : decode cX2_fieldsOf 18 = .ok (.goto 4, 3) := by decide +kernel
theorem dX2_fieldsOf_21 : decode cX2_fieldsOf 21 = .ok (.iconst 0, 1) := by decide +kernel
theorem dX2_fieldsOf_22 : decode cX2_fieldsOf 22 = .ok (.ireturn, 1) := by decide +kernel
theorem dX2_wordsOf_0 : decode cX2_wordsOf 0 = .ok (.iload_n 1, 1) := by decide +kernel
theorem dX2_wordsOf_1 : decode cX2_wordsOf 1 = .ok (.ifCond .lt 22, 3) := by decide +kernel
theorem dX2_wordsOf_4 : decode cX2_wordsOf 4 = .ok (.iload_n 1, 1) := by decide +kernel
theorem dX2_wordsOf_5 : decode cX2_wordsOf 5 = .ok (.aload_n 0, 1) := by decide +kernel
theorem dX2_wordsOf_6 : decode cX2_wordsOf 6 = .ok (.getfield 34, 3) := by decide +kernel
theorem dX2_wordsOf_9 : decode cX2_wordsOf 9 = .ok (.if_icmp .ge 14, 3) := by decide +kernel
theorem dX2_wordsOf_12 : decode cX2_wordsOf 12 = .ok (.aload_n 0, 1) := by decide +kernel
theorem dX2_wordsOf_13 : decode cX2_wordsOf 13 = .ok (.getfield 9, 3) := by decide +kernel
theorem dX2_wordsOf_16 : decode cX2_wordsOf 16 = .ok (.iload_n 1, 1) := by decide +kernel
theorem dX2_wordsOf_17 : decode cX2_wordsOf 17 = .ok (.iaload, 1) := by decide +kernel
theorem dX2_wordsOf_18 : decode cX2_wordsOf 18 = .ok (.iconst 1, 1) := by decide +kernel
theorem dX2_wordsOf_19 : decode cX2_wordsOf 19 = .ok (.iadd, 1) := by decide +kernel
theorem dX2_wordsOf_20 : decode cX2_wordsOf 20 = .ok (.goto 4, 3) := by decide +kernel
theorem dX2_wordsOf_23 : decode cX2_wordsOf 23 = .ok (.iconst 0, 1) := by decide +kernel
theorem dX2_wordsOf_24 : decode cX2_wordsOf 24 = .ok (.ireturn, 1) := by decide +kernel
theorem dX2_distanceOf_0 : decode cX2_distanceOf 0 = .ok (.aload_n 0, 1) := by decide +kernel
theorem dX2_distanceOf_1 : decode cX2_distanceOf 1 = .ok (.iload_n 1, 1) := by decide +kernel
theorem dX2_distanceOf_2 : decode cX2_distanceOf 2 = .ok (.invokevirtual 47, 3) := by decide +kernel
theorem dX2_distanceOf_5 : decode cX2_distanceOf 5 = .ok (.ifCond .eq 12, 3) := by decide +kernel
theorem dX2_distanceOf_8 : decode cX2_distanceOf 8 = .ok (.aload_n 0, 1) := by decide +kernel
theorem dX2_distanceOf_9 : decode cX2_distanceOf 9 = .ok (.getfield 21, 3) := by decide +kernel
theorem dX2_distanceOf_12 : decode cX2_distanceOf 12 = .ok (.iload_n 1, 1) := by decide +kernel
theorem dX2_distanceOf_13 : decode cX2_distanceOf 13 = .ok (.iaload, 1) := by decide +kernel
theorem dX2_distanceOf_14 : decode cX2_distanceOf 14 = .ok (.goto 4, 3) := by decide +kernel
theorem dX2_distanceOf_17 : decode cX2_distanceOf 17 = .ok (.iconst (-1), 1) := by decide +kernel
theorem dX2_distanceOf_18 : decode cX2_distanceOf 18 = .ok (.ireturn, 1) := by decide +kernel
theorem dX2_nameOf_0 : decode cX2_nameOf 0 = .ok (.iload_n 1, 1) := by decide +kernel
theorem dX2_nameOf_1 : decode cX2_nameOf 1 = .ok (.ifCond .lt 25, 3) := by decide +kernel
theorem dX2_nameOf_4 : decode cX2_nameOf 4 = .ok (.iload_n 1, 1) := by decide +kernel
theorem dX2_nameOf_5 : decode cX2_nameOf 5 = .ok (.aload_n 0, 1) := by decide +kernel
theorem dX2_nameOf_6 : decode cX2_nameOf 6 = .ok (.getfield 34, 3) := by decide +kernel
theorem dX2_nameOf_9 : decode cX2_nameOf 9 = .ok (.if_icmp .ge 17, 3) := by decide +kernel
theorem dX2_nameOf_12 : decode cX2_nameOf 12 = .ok (.iload_n 2, 1) := by decide +kernel
theorem dX2_nameOf_13 : decode cX2_nameOf 13 = .ok (.ifCond .lt 13, 3) := by decide +kernel
theorem dX2_nameOf_16 : decode cX2_nameOf 16 = .ok (.iload_n 2, 1) := by decide +kernel
theorem dX2_nameOf_17 : decode cX2_nameOf 17 = .ok (.aload_n 0, 1) := by decide +kernel
theorem dX2_nameOf_18 : decode cX2_nameOf 18 = .ok (.getfield 9, 3) := by decide +kernel
theorem dX2_nameOf_21 : decode cX2_nameOf 21 = .ok (.iload_n 1, 1) := by decide +kernel
theorem dX2_nameOf_22 : decode cX2_nameOf 22 = .ok (.iaload, 1) := by decide +kernel
theorem dX2_nameOf_23 : decode cX2_nameOf 23 = .ok (.if_icmp .lt 5, 3) := by decide +kernel
theorem dX2_nameOf_26 : decode cX2_nameOf 26 = .ok (.iconst (-1), 1) := by decide +kernel
theorem dX2_nameOf_27 : decode cX2_nameOf 27 = .ok (.ireturn, 1) := by decide +kernel
theorem dX2_nameOf_28 : decode cX2_nameOf 28 = .ok (.aload_n 0, 1) := by decide +kernel
theorem dX2_nameOf_29 : decode cX2_nameOf 29 = .ok (.getfield 15, 3) := by decide +kernel
theorem dX2_nameOf_32 : decode cX2_nameOf 32 = .ok (.iload_n 1, 1) := by decide +kernel
theorem dX2_nameOf_33 : decode cX2_nameOf 33 = .ok (.iconst 3, 1) := by decide +kernel
theorem dX2_nameOf_34 : decode cX2_nameOf 34 = .ok (.imul, 1) := by decide +kernel
theorem dX2_nameOf_35 : decode cX2_nameOf 35 = .ok (.iload_n 2, 1) := by decide +kernel
theorem dX2_nameOf_36 : decode cX2_nameOf 36 = .ok (.iadd, 1) := by decide +kernel
theorem dX2_nameOf_37 : decode cX2_nameOf 37 = .ok (.iaload, 1) := by decide +kernel
theorem dX2_nameOf_38 : decode cX2_nameOf 38 = .ok (.ireturn, 1) := by decide +kernel
theorem dX2_rootAt_0 : decode cX2_rootAt 0 = .ok (.iload_n 1, 1) := by decide +kernel
theorem dX2_rootAt_1 : decode cX2_rootAt 1 = .ok (.ifCond .lt 18, 3) := by decide +kernel
theorem dX2_rootAt_4 : decode cX2_rootAt 4 = .ok (.iload_n 1, 1) := by decide +kernel
theorem dX2_rootAt_5 : decode cX2_rootAt 5 = .ok (.bipush 6, 2) := by decide +kernel
theorem dX2_rootAt_7 : decode cX2_rootAt 7 = .ok (.if_icmp .ge 12, 3) := by decide +kernel
theorem dX2_rootAt_10 : decode cX2_rootAt 10 = .ok (.aload_n 0, 1) := by decide +kernel
theorem dX2_rootAt_11 : decode cX2_rootAt 11 = .ok (.getfield 18, 3) := by decide +kernel
theorem dX2_rootAt_14 : decode cX2_rootAt 14 = .ok (.iload_n 1, 1) := by decide +kernel
theorem dX2_rootAt_15 : decode cX2_rootAt 15 = .ok (.iaload, 1) := by decide +kernel
theorem dX2_rootAt_16 : decode cX2_rootAt 16 = .ok (.goto 4, 3) := by decide +kernel
theorem dX2_rootAt_19 : decode cX2_rootAt 19 = .ok (.iconst (-1), 1) := by decide +kernel
theorem dX2_rootAt_20 : decode cX2_rootAt 20 = .ok (.ireturn, 1) := by decide +kernel
theorem dX2_nameByField_0 : decode cX2_nameByField 0 = .ok (.aload_n 0, 1) := by decide +kernel
theorem dX2_nameByField_1 : decode cX2_nameByField 1 = .ok (.iload_n 1, 1) := by decide +kernel
theorem dX2_nameByField_2 : decode cX2_nameByField 2 = .ok (.iload_n 2, 1) := by decide +kernel
theorem dX2_nameByField_3 : decode cX2_nameByField 3 = .ok (.invokevirtual 51, 3) := by decide +kernel
theorem dX2_nameByField_6 : decode cX2_nameByField 6 = .ok (.ifCond .eq 18, 3) := by decide +kernel
theorem dX2_nameByField_9 : decode cX2_nameByField 9 = .ok (.aload_n 0, 1) := by decide +kernel
theorem dX2_nameByField_10 : decode cX2_nameByField 10 = .ok (.getfield 15, 3) := by decide +kernel
theorem dX2_nameByField_13 : decode cX2_nameByField 13 = .ok (.iload_n 1, 1) := by decide +kernel
theorem dX2_nameByField_14 : decode cX2_nameByField 14 = .ok (.iconst 3, 1) := by decide +kernel
theorem dX2_nameByField_15 : decode cX2_nameByField 15 = .ok (.imul, 1) := by decide +kernel
theorem dX2_nameByField_16 : decode cX2_nameByField 16 = .ok (.iload_n 2, 1) := by decide +kernel
theorem dX2_nameByField_17 : decode cX2_nameByField 17 = .ok (.iadd, 1) := by decide +kernel
theorem dX2_nameByField_18 : decode cX2_nameByField 18 = .ok (.iload_n 3, 1) := by decide +kernel
theorem dX2_nameByField_19 : decode cX2_nameByField 19 = .ok (.iastore, 1) := by decide +kernel
theorem dX2_nameByField_20 : decode cX2_nameByField 20 = .ok (.aload_n 0, 1) := by decide +kernel
theorem dX2_nameByField_21 : decode cX2_nameByField 21 = .ok (.invokevirtual 55, 3) := by decide +kernel
theorem dX2_nameByField_24 : decode cX2_nameByField 24 = .ok (.return_, 1) := by decide +kernel
theorem dX2_nameByRoot_0 : decode cX2_nameByRoot 0 = .ok (.iload_n 1, 1) := by decide +kernel
theorem dX2_nameByRoot_1 : decode cX2_nameByRoot 1 = .ok (.ifCond .lt 20, 3) := by decide +kernel
theorem dX2_nameByRoot_4 : decode cX2_nameByRoot 4 = .ok (.iload_n 1, 1) := by decide +kernel
theorem dX2_nameByRoot_5 : decode cX2_nameByRoot 5 = .ok (.bipush 6, 2) := by decide +kernel
theorem dX2_nameByRoot_7 : decode cX2_nameByRoot 7 = .ok (.if_icmp .ge 14, 3) := by decide +kernel
theorem dX2_nameByRoot_10 : decode cX2_nameByRoot 10 = .ok (.aload_n 0, 1) := by decide +kernel
theorem dX2_nameByRoot_11 : decode cX2_nameByRoot 11 = .ok (.getfield 18, 3) := by decide +kernel
theorem dX2_nameByRoot_14 : decode cX2_nameByRoot 14 = .ok (.iload_n 1, 1) := by decide +kernel
theorem dX2_nameByRoot_15 : decode cX2_nameByRoot 15 = .ok (.iload_n 2, 1) := by decide +kernel
theorem dX2_nameByRoot_16 : decode cX2_nameByRoot 16 = .ok (.iastore, 1) := by decide +kernel
theorem dX2_nameByRoot_17 : decode cX2_nameByRoot 17 = .ok (.aload_n 0, 1) := by decide +kernel
theorem dX2_nameByRoot_18 : decode cX2_nameByRoot 18 = .ok (.invokevirtual 55, 3) := by decide +kernel
theorem dX2_nameByRoot_21 : decode cX2_nameByRoot 21 = .ok (.return_, 1) := by decide +kernel
theorem dX2_trace_0 : decode cX2_trace 0 = .ok (.aload_n 1, 1) := by decide +kernel
theorem dX2_trace_1 : decode cX2_trace 1 = .ok (.invokevirtual 44, 3) := by decide +kernel
theorem dX2_trace_4 : decode cX2_trace 4 = .ok (.iconst 0, 1) := by decide +kernel
theorem dX2_trace_5 : decode cX2_trace 5 = .ok (.istore_n 3, 1) := by decide +kernel
theorem dX2_trace_6 : decode cX2_trace 6 = .ok (.iload_n 3, 1) := by decide +kernel
theorem dX2_trace_7 : decode cX2_trace 7 = .ok (.bipush 6, 2) := by decide +kernel
theorem dX2_trace_9 : decode cX2_trace 9 = .ok (.if_icmp .ge 24, 3) := by decide +kernel
theorem dX2_trace_12 : decode cX2_trace 12 = .ok (.iload_n 3, 1) := by decide +kernel
theorem dX2_trace_13 : decode cX2_trace 13 = .ok (.iload_n 2, 1) := by decide +kernel
theorem dX2_trace_14 : decode cX2_trace 14 = .ok (.if_icmp .eq 13, 3) := by decide +kernel
theorem dX2_trace_17 : decode cX2_trace 17 = .ok (.aload_n 1, 1) := by decide +kernel
theorem dX2_trace_18 : decode cX2_trace 18 = .ok (.aload_n 0, 1) := by decide +kernel
theorem dX2_trace_19 : decode cX2_trace 19 = .ok (.getfield 18, 3) := by decide +kernel
theorem dX2_trace_22 : decode cX2_trace 22 = .ok (.iload_n 3, 1) := by decide +kernel
theorem dX2_trace_23 : decode cX2_trace 23 = .ok (.iaload, 1) := by decide +kernel
theorem dX2_trace_24 : decode cX2_trace 24 = .ok (.invokevirtual 58, 3) := by decide +kernel
theorem dX2_trace_27 : decode cX2_trace 27 = .ok (.iinc 3 1, 3) := by decide +kernel
theorem dX2_trace_30 : decode cX2_trace 30 = .ok (.goto (-24), 3) := by decide +kernel
theorem dX2_trace_33 : decode cX2_trace 33 = .ok (.iconst 0, 1) := by decide +kernel
theorem dX2_trace_34 : decode cX2_trace 34 = .ok (.istore_n 3, 1) := by decide +kernel
theorem dX2_trace_35 : decode cX2_trace 35 = .ok (.iload_n 3, 1) := by decide +kernel
theorem dX2_trace_36 : decode cX2_trace 36 = .ok (.aload_n 1, 1) := by decide +kernel
theorem dX2_trace_37 : decode cX2_trace 37 = .ok (.getfield 62, 3) := by decide +kernel
theorem dX2_trace_40 : decode cX2_trace 40 = .ok (.if_icmp .ge 25, 3) := by decide +kernel
theorem dX2_trace_43 : decode cX2_trace 43 = .ok (.iload_n 3, 1) := by decide +kernel
theorem dX2_trace_44 : decode cX2_trace 44 = .ok (.bipush 80, 2) := by decide +kernel
theorem dX2_trace_46 : decode cX2_trace 46 = .ok (.if_icmp .ge 19, 3) := by decide +kernel
theorem dX2_trace_49 : decode cX2_trace 49 = .ok (.aload_n 0, 1) := by decide +kernel
theorem dX2_trace_50 : decode cX2_trace 50 = .ok (.aload_n 1, 1) := by decide +kernel
theorem dX2_trace_51 : decode cX2_trace 51 = .ok (.iload_n 3, 1) := by decide +kernel
theorem dX2_trace_52 : decode cX2_trace 52 = .ok (.invokevirtual 65, 3) := by decide +kernel
theorem dX2_trace_55 : decode cX2_trace 55 = .ok (.aload_n 1, 1) := by decide +kernel
theorem dX2_trace_56 : decode cX2_trace 56 = .ok (.invokevirtual 69, 3) := by decide +kernel
theorem dX2_trace_59 : decode cX2_trace 59 = .ok (.iinc 3 1, 3) := by decide +kernel
theorem dX2_trace_62 : decode cX2_trace 62 = .ok (.goto (-27), 3) := by decide +kernel
theorem dX2_trace_65 : decode cX2_trace 65 = .ok (.return_, 1) := by decide +kernel
theorem dX2_addNamedBy_0 : decode cX2_addNamedBy 0 = .ok (.iconst 0, 1) := by decide +kernel
theorem dX2_addNamedBy_1 : decode cX2_addNamedBy 1 = .ok (.istore_n 3, 1) := by decide +kernel
theorem dX2_addNamedBy_2 : decode cX2_addNamedBy 2 = .ok (.iload_n 3, 1) := by decide +kernel
theorem dX2_addNamedBy_3 : decode cX2_addNamedBy 3 = .ok (.aload_n 0, 1) := by decide +kernel
theorem dX2_addNamedBy_4 : decode cX2_addNamedBy 4 = .ok (.iload_n 1, 1) := by decide +kernel
theorem dX2_addNamedBy_5 : decode cX2_addNamedBy 5 = .ok (.invokevirtual 73, 3) := by decide +kernel
theorem dX2_addNamedBy_8 : decode cX2_addNamedBy 8 = .ok (.if_icmp .ge 19, 3) := by decide +kernel
theorem dX2_addNamedBy_11 : decode cX2_addNamedBy 11 = .ok (.aload_n 2, 1) := by decide +kernel
theorem dX2_addNamedBy_12 : decode cX2_addNamedBy 12 = .ok (.aload_n 0, 1) := by decide +kernel
theorem dX2_addNamedBy_13 : decode cX2_addNamedBy 13 = .ok (.iload_n 1, 1) := by decide +kernel
theorem dX2_addNamedBy_14 : decode cX2_addNamedBy 14 = .ok (.iload_n 3, 1) := by decide +kernel
theorem dX2_addNamedBy_15 : decode cX2_addNamedBy 15 = .ok (.invokevirtual 76, 3) := by decide +kernel
theorem dX2_addNamedBy_18 : decode cX2_addNamedBy 18 = .ok (.invokevirtual 58, 3) := by decide +kernel
theorem dX2_addNamedBy_21 : decode cX2_addNamedBy 21 = .ok (.iinc 3 1, 3) := by decide +kernel
theorem dX2_addNamedBy_24 : decode cX2_addNamedBy 24 = .ok (.goto (-22), 3) := by decide +kernel
theorem dX2_addNamedBy_27 : decode cX2_addNamedBy 27 = .ok (.return_, 1) := by decide +kernel
theorem dX2_countLostWithout_0 : decode cX2_countLostWithout 0 = .ok (.aload_n 0, 1) := by decide +kernel
theorem dX2_countLostWithout_1 : decode cX2_countLostWithout 1 = .ok (.aload_n 0, 1) := by decide +kernel
theorem dX2_countLostWithout_2 : decode cX2_countLostWithout 2 = .ok (.getfield 31, 3) := by decide +kernel
theorem dX2_countLostWithout_5 : decode cX2_countLostWithout 5 = .ok (.iload_n 1, 1) := by decide +kernel
theorem dX2_countLostWithout_6 : decode cX2_countLostWithout 6 = .ok (.invokevirtual 80, 3) := by decide +kernel
theorem dX2_countLostWithout_9 : decode cX2_countLostWithout 9 = .ok (.aload_n 0, 1) := by decide +kernel
theorem dX2_countLostWithout_10 : decode cX2_countLostWithout 10 = .ok (.getfield 27, 3) := by decide +kernel
theorem dX2_countLostWithout_13 : decode cX2_countLostWithout 13 = .ok (.getfield 62, 3) := by decide +kernel
theorem dX2_countLostWithout_16 : decode cX2_countLostWithout 16 = .ok (.aload_n 0, 1) := by decide +kernel
theorem dX2_countLostWithout_17 : decode cX2_countLostWithout 17 = .ok (.getfield 31, 3) := by decide +kernel
theorem dX2_countLostWithout_20 : decode cX2_countLostWithout 20 = .ok (.getfield 62, 3) := by decide +kernel
theorem dX2_countLostWithout_23 : decode cX2_countLostWithout 23 = .ok (.isub, 1) := by decide +kernel
theorem dX2_countLostWithout_24 : decode cX2_countLostWithout 24 = .ok (.ireturn, 1) := by decide +kernel
theorem dX2_measure_0 : decode cX2_measure 0 = .ok (.aload_n 0, 1) := by decide +kernel
theorem dX2_measure_1 : decode cX2_measure 1 = .ok (.aload_n 0, 1) := by decide +kernel
theorem dX2_measure_2 : decode cX2_measure 2 = .ok (.getfield 27, 3) := by decide +kernel
theorem dX2_measure_5 : decode cX2_measure 5 = .ok (.iconst (-1), 1) := by decide +kernel
theorem dX2_measure_6 : decode cX2_measure 6 = .ok (.invokevirtual 80, 3) := by decide +kernel
theorem dX2_measure_9 : decode cX2_measure 9 = .ok (.aload_n 0, 1) := by decide +kernel
theorem dX2_measure_10 : decode cX2_measure 10 = .ok (.getfield 21, 3) := by decide +kernel
theorem dX2_measure_13 : decode cX2_measure 13 = .ok (.iconst (-1), 1) := by decide +kernel
theorem dX2_measure_14 : decode cX2_measure 14 = .ok (.invokestatic 38, 3) := by decide +kernel
theorem dX2_measure_17 : decode cX2_measure 17 = .ok (.iconst 0, 1) := by decide +kernel
theorem dX2_measure_18 : decode cX2_measure 18 = .ok (.istore_n 1, 1) := by decide +kernel
theorem dX2_measure_19 : decode cX2_measure 19 = .ok (.iload_n 1, 1) := by decide +kernel
theorem dX2_measure_20 : decode cX2_measure 20 = .ok (.bipush 6, 2) := by decide +kernel
theorem dX2_measure_22 : decode cX2_measure 22 = .ok (.if_icmp .ge 34, 3) := by decide +kernel
theorem dX2_measure_25 : decode cX2_measure 25 = .ok (.aload_n 0, 1) := by decide +kernel
theorem dX2_measure_26 : decode cX2_measure 26 = .ok (.aload_n 0, 1) := by decide +kernel
theorem dX2_measure_27 : decode cX2_measure 27 = .ok (.getfield 18, 3) := by decide +kernel
theorem dX2_measure_30 : decode cX2_measure 30 = .ok (.iload_n 1, 1) := by decide +kernel
theorem dX2_measure_31 : decode cX2_measure 31 = .ok (.iaload, 1) := by decide +kernel
theorem dX2_measure_32 : decode cX2_measure 32 = .ok (.invokevirtual 47, 3) := by decide +kernel
theorem dX2_measure_35 : decode cX2_measure 35 = .ok (.ifCond .eq 15, 3) := by decide +kernel
theorem dX2_measure_38 : decode cX2_measure 38 = .ok (.aload_n 0, 1) := by decide +kernel
theorem dX2_measure_39 : decode cX2_measure 39 = .ok (.getfield 21, 3) := by decide +kernel
theorem dX2_measure_42 : decode cX2_measure 42 = .ok (.aload_n 0, 1) := by decide +kernel
theorem dX2_measure_43 : decode cX2_measure 43 = .ok (.getfield 18, 3) := by decide +kernel
theorem dX2_measure_46 : decode cX2_measure 46 = .ok (.iload_n 1, 1) := by decide +kernel
theorem dX2_measure_47 : decode cX2_measure 47 = .ok (.iaload, 1) := by decide +kernel
theorem dX2_measure_48 : decode cX2_measure 48 = .ok (.iconst 0, 1) := by decide +kernel
theorem dX2_measure_49 : decode cX2_measure 49 = .ok (.iastore, 1) := by decide +kernel
theorem dX2_measure_50 : decode cX2_measure 50 = .ok (.iinc 1 1, 3) := by decide +kernel
theorem dX2_measure_53 : decode cX2_measure 53 = .ok (.goto (-34), 3) := by decide +kernel
theorem dX2_measure_56 : decode cX2_measure 56 = .ok (.iconst 0, 1) := by decide +kernel
theorem dX2_measure_57 : decode cX2_measure 57 = .ok (.istore_n 1, 1) := by decide +kernel
theorem dX2_measure_58 : decode cX2_measure 58 = .ok (.iload_n 1, 1) := by decide +kernel
theorem dX2_measure_59 : decode cX2_measure 59 = .ok (.aload_n 0, 1) := by decide +kernel
theorem dX2_measure_60 : decode cX2_measure 60 = .ok (.getfield 27, 3) := by decide +kernel
theorem dX2_measure_63 : decode cX2_measure 63 = .ok (.getfield 62, 3) := by decide +kernel
theorem dX2_measure_66 : decode cX2_measure 66 = .ok (.if_icmp .ge 21, 3) := by decide +kernel
theorem dX2_measure_69 : decode cX2_measure 69 = .ok (.aload_n 0, 1) := by decide +kernel
theorem dX2_measure_70 : decode cX2_measure 70 = .ok (.aload_n 0, 1) := by decide +kernel
theorem dX2_measure_71 : decode cX2_measure 71 = .ok (.getfield 27, 3) := by decide +kernel
theorem dX2_measure_74 : decode cX2_measure 74 = .ok (.iload_n 1, 1) := by decide +kernel
theorem dX2_measure_75 : decode cX2_measure 75 = .ok (.invokevirtual 65, 3) := by decide +kernel
theorem dX2_measure_78 : decode cX2_measure 78 = .ok (.invokevirtual 84, 3) := by decide +kernel
theorem dX2_measure_81 : decode cX2_measure 81 = .ok (.iinc 1 1, 3) := by decide +kernel
theorem dX2_measure_84 : decode cX2_measure 84 = .ok (.goto (-26), 3) := by decide +kernel
theorem dX2_measure_87 : decode cX2_measure 87 = .ok (.return_, 1) := by decide +kernel
theorem dX2_measureNamedBy_0 : decode cX2_measureNamedBy 0 = .ok (.aload_n 0, 1) := by decide +kernel
theorem dX2_measureNamedBy_1 : decode cX2_measureNamedBy 1 = .ok (.iload_n 1, 1) := by decide +kernel
theorem dX2_measureNamedBy_2 : decode cX2_measureNamedBy 2 = .ok (.invokevirtual 87, 3) := by decide +kernel
theorem dX2_measureNamedBy_5 : decode cX2_measureNamedBy 5 = .ok (.iconst 1, 1) := by decide +kernel
theorem dX2_measureNamedBy_6 : decode cX2_measureNamedBy 6 = .ok (.iadd, 1) := by decide +kernel
theorem dX2_measureNamedBy_7 : decode cX2_measureNamedBy 7 = .ok (.istore_n 2, 1) := by decide +kernel
theorem dX2_measureNamedBy_8 : decode cX2_measureNamedBy 8 = .ok (.iconst 0, 1) := by decide +kernel
theorem dX2_measureNamedBy_9 : decode cX2_measureNamedBy 9 = .ok (.istore_n 3, 1) := by decide +kernel
theorem dX2_measureNamedBy_10 : decode cX2_measureNamedBy 10 = .ok (.iload_n 3, 1) := by decide +kernel
theorem dX2_measureNamedBy_11 : decode cX2_measureNamedBy 11 = .ok (.aload_n 0, 1) := by decide +kernel
theorem dX2_measureNamedBy_12 : decode cX2_measureNamedBy 12 = .ok (.iload_n 1, 1) := by decide +kernel
theorem dX2_measureNamedBy_13 : decode cX2_measureNamedBy 13 = .ok (.invokevirtual 73, 3) := by decide +kernel
theorem dX2_measureNamedBy_16 : decode cX2_measureNamedBy 16 = .ok (.if_icmp .ge 45, 3) := by decide +kernel
theorem dX2_measureNamedBy_19 : decode cX2_measureNamedBy 19 = .ok (.aload_n 0, 1) := by decide +kernel
theorem dX2_measureNamedBy_20 : decode cX2_measureNamedBy 20 = .ok (.iload_n 1, 1) := by decide +kernel
theorem dX2_measureNamedBy_21 : decode cX2_measureNamedBy 21 = .ok (.iload_n 3, 1) := by decide +kernel
theorem dX2_measureNamedBy_22 : decode cX2_measureNamedBy 22 = .ok (.invokevirtual 76, 3) := by decide +kernel
theorem dX2_measureNamedBy_25 : decode cX2_measureNamedBy 25 = .ok (.istore 4, 2) := by decide +kernel
theorem dX2_measureNamedBy_27 : decode cX2_measureNamedBy 27 = .ok (.aload_n 0, 1) := by decide +kernel
theorem dX2_measureNamedBy_28 : decode cX2_measureNamedBy 28 = .ok (.iload 4, 2) := by decide +kernel
theorem dX2_measureNamedBy_30 : decode cX2_measureNamedBy 30 = .ok (.invokevirtual 47, 3) := by decide +kernel
theorem dX2_measureNamedBy_33 : decode cX2_measureNamedBy 33 = .ok (.ifCond .eq 22, 3) := by decide +kernel
theorem dX2_measureNamedBy_36 : decode cX2_measureNamedBy 36 = .ok (.aload_n 0, 1) := by decide +kernel
theorem dX2_measureNamedBy_37 : decode cX2_measureNamedBy 37 = .ok (.getfield 21, 3) := by decide +kernel
theorem dX2_measureNamedBy_40 : decode cX2_measureNamedBy 40 = .ok (.iload 4, 2) := by decide +kernel
theorem dX2_measureNamedBy_42 : decode cX2_measureNamedBy 42 = .ok (.iaload, 1) := by decide +kernel
theorem dX2_measureNamedBy_43 : decode cX2_measureNamedBy 43 = .ok (.iconst (-1), 1) := by decide +kernel
theorem dX2_measureNamedBy_44 : decode cX2_measureNamedBy 44 = .ok (.if_icmp .ne 11, 3) := by decide +kernel
theorem dX2_measureNamedBy_47 : decode cX2_measureNamedBy 47 = .ok (.aload_n 0, 1) := by decide +kernel
theorem dX2_measureNamedBy_48 : decode cX2_measureNamedBy 48 = .ok (.getfield 21, 3) := by decide +kernel
theorem dX2_measureNamedBy_51 : decode cX2_measureNamedBy 51 = .ok (.iload 4, 2) := by decide +kernel
theorem dX2_measureNamedBy_53 : decode cX2_measureNamedBy 53 = .ok (.iload_n 2, 1) := by decide +kernel
theorem dX2_measureNamedBy_54 : decode cX2_measureNamedBy 54 = .ok (.iastore, 1) := by decide +kernel
theorem dX2_measureNamedBy_55 : decode cX2_measureNamedBy 55 = .ok (.iinc 3 1, 3) := by decide +kernel
theorem dX2_measureNamedBy_58 : decode cX2_measureNamedBy 58 = .ok (.goto (-48), 3) := by decide +kernel
theorem dX2_measureNamedBy_61 : decode cX2_measureNamedBy 61 = .ok (.return_, 1) := by decide +kernel
theorem dX3_init_0 : decode cX3_init 0 = .ok (.aload_n 0, 1) := by decide +kernel
theorem dX3_init_1 : decode cX3_init 1 = .ok (.aload_n 1, 1) := by decide +kernel
theorem dX3_init_2 : decode cX3_init 2 = .ok (.invokespecial 3, 3) := by decide +kernel
theorem dX3_init_5 : decode cX3_init 5 = .ok (.aload_n 0, 1) := by decide +kernel
theorem dX3_init_6 : decode cX3_init 6 = .ok (.bipush 80, 2) := by decide +kernel
theorem dX3_init_8 : decode cX3_init 8 = .ok (.newarray .int, 2) := by decide +kernel
theorem dX3_init_10 : decode cX3_init 10 = .ok (.putfield 9, 3) := by decide +kernel
theorem dX3_init_13 : decode cX3_init 13 = .ok (.aload_n 0, 1) := by decide +kernel
theorem dX3_init_14 : decode cX3_init 14 = .ok (.new 15, 3) := by decide +kernel
theorem dX3_init_17 : decode cX3_init 17 = .ok (.dup, 1) := by decide +kernel
theorem dX3_init_18 : decode cX3_init 18 = .ok (.invokespecial 17, 3) := by decide +kernel
theorem dX3_init_21 : decode cX3_init 21 = .ok (.putfield 20, 3) := by decide +kernel
theorem dX3_init_24 : decode cX3_init 24 = .ok (.aload_n 0, 1) := by decide +kernel
theorem dX3_init_25 : decode cX3_init 25 = .ok (.new 15, 3) := by decide +kernel
theorem dX3_init_28 : decode cX3_init 28 = .ok (.dup, 1) := by decide +kernel
theorem dX3_init_29 : decode cX3_init 29 = .ok (.invokespecial 17, 3) := by decide +kernel
theorem dX3_init_32 : decode cX3_init 32 = .ok (.putfield 24, 3) := by decide +kernel
theorem dX3_init_35 : decode cX3_init 35 = .ok (.return_, 1) := by decide +kernel
theorem dX3_forgetThings_0 : decode cX3_forgetThings 0 = .ok (.aload_n 0, 1) := by decide +kernel
theorem dX3_forgetThings_1 : decode cX3_forgetThings 1 = .ok (.iconst 0, 1) := by decide +kernel
theorem dX3_forgetThings_2 : decode cX3_forgetThings 2 = .ok (.putfield 27, 3) := by decide +kernel
theorem dX3_forgetThings_5 : decode cX3_forgetThings 5 = .ok (.aload_n 0, 1) := by decide +kernel
theorem dX3_forgetThings_6 : decode cX3_forgetThings 6 = .ok (.getfield 20, 3) := by decide +kernel
theorem dX3_forgetThings_9 : decode cX3_forgetThings 9 = .ok (.invokevirtual 31, 3) := by decide +kernel
theorem dX3_forgetThings_12 : decode cX3_forgetThings 12 = .ok (.aload_n 0, 1) := by decide +kernel
theorem dX3_forgetThings_13 : decode cX3_forgetThings 13 = .ok (.iconst 0, 1) := by decide +kernel
theorem dX3_forgetThings_14 : decode cX3_forgetThings 14 = .ok (.putfield 34, 3) := by decide +kernel
theorem dX3_forgetThings_17 : decode cX3_forgetThings 17 = .ok (.return_, 1) := by decide +kernel
theorem dX3_placeNew_0 : decode cX3_placeNew 0 = .ok (.aload_n 0, 1) := by decide +kernel
theorem dX3_placeNew_1 : decode cX3_placeNew 1 = .ok (.invokevirtual 38, 3) := by decide +kernel
theorem dX3_placeNew_4 : decode cX3_placeNew 4 = .ok (.aload_n 0, 1) := by decide +kernel
theorem dX3_placeNew_5 : decode cX3_placeNew 5 = .ok (.iload_n 1, 1) := by decide +kernel
theorem dX3_placeNew_6 : decode cX3_placeNew 6 = .ok (.invokevirtual 41, 3) := by decide +kernel
theorem dX3_placeNew_9 : decode cX3_placeNew 9 = .ok (.istore_n 2, 1) := by decide +kernel
theorem dX3_placeNew_10 : decode cX3_placeNew 10 = .ok (.iload_n 2, 1) := by decide +kernel
theorem dX3_placeNew_11 : decode cX3_placeNew 11 = .ok (.iconst (-1), 1) := by decide +kernel
theorem dX3_placeNew_12 : decode cX3_placeNew 12 = .ok (.if_icmp .ne 14, 3) := by decide +kernel
theorem dX3_placeNew_15 : decode cX3_placeNew 15 = .ok (.aload_n 0, 1) := by decide +kernel
theorem dX3_placeNew_16 : decode cX3_placeNew 16 = .ok (.invokevirtual 45, 3) := by decide +kernel
theorem dX3_placeNew_19 : decode cX3_placeNew 19 = .ok (.pop, 1) := by decide +kernel
theorem dX3_placeNew_20 : decode cX3_placeNew 20 = .ok (.aload_n 0, 1) := by decide +kernel
theorem dX3_placeNew_21 : decode cX3_placeNew 21 = .ok (.iload_n 1, 1) := by decide +kernel
theorem dX3_placeNew_22 : decode cX3_placeNew 22 = .ok (.invokevirtual 41, 3) := by decide +kernel
theorem dX3_placeNew_25 : decode cX3_placeNew 25 = .ok (.istore_n 2, 1) := by decide +kernel
theorem dX3_placeNew_26 : decode cX3_placeNew 26 = .ok (.iload_n 2, 1) := by decide +kernel
theorem dX3_placeNew_27 : decode cX3_placeNew 27 = .ok (.iconst (-1), 1) := by decide +kernel
theorem dX3_placeNew_28 : decode cX3_placeNew 28 = .ok (.if_icmp .ne 14, 3) := by decide +kernel
theorem dX3_placeNew_31 : decode cX3_placeNew 31 = .ok (.aload_n 0, 1) := by decide +kernel
theorem dX3_placeNew_32 : decode cX3_placeNew 32 = .ok (.invokevirtual 45, 3) := by decide +kernel
theorem dX3_placeNew_35 : decode cX3_placeNew 35 = .ok (.pop, 1) := by decide +kernel
theorem dX3_placeNew_36 : decode cX3_placeNew 36 = .ok (.aload_n 0, 1) := by decide +kernel
theorem dX3_placeNew_37 : decode cX3_placeNew 37 = .ok (.iload_n 1, 1) := by decide +kernel
theorem dX3_placeNew_38 : decode cX3_placeNew 38 = .ok (.invokevirtual 41, 3) := by decide +kernel
theorem dX3_placeNew_41 : decode cX3_placeNew 41 = .ok (.istore_n 2, 1) := by decide +kernel
theorem dX3_placeNew_42 : decode cX3_placeNew 42 = .ok (.iload_n 2, 1) := by decide +kernel
theorem dX3_placeNew_43 : decode cX3_placeNew 43 = .ok (.iconst (-1), 1) := by decide +kernel
theorem dX3_placeNew_44 : decode cX3_placeNew 44 = .ok (.if_icmp .ne 8, 3) := by decide +kernel
theorem dX3_placeNew_47 : decode cX3_placeNew 47 = .ok (.aload_n 0, 1) := by decide +kernel
theorem dX3_placeNew_48 : decode cX3_placeNew 48 = .ok (.invokevirtual 49, 3) := by decide +kernel
theorem dX3_placeNew_51 : decode cX3_placeNew 51 = .ok (.return_, 1) := by decide +kernel
theorem dX3_placeNew_52 : decode cX3_placeNew 52 = .ok (.aload_n 0, 1) := by decide +kernel
theorem dX3_placeNew_53 : decode cX3_placeNew 53 = .ok (.iload_n 1, 1) := by decide +kernel
theorem dX3_placeNew_54 : decode cX3_placeNew 54 = .ok (.iload_n 2, 1) := by decide +kernel
theorem dX3_placeNew_55 : decode cX3_placeNew 55 = .ok (.invokevirtual 52, 3) := by decide +kernel
theorem dX3_placeNew_58 : decode cX3_placeNew 58 = .ok (.aload_n 0, 1) := by decide +kernel
theorem dX3_placeNew_59 : decode cX3_placeNew 59 = .ok (.iload_n 1, 1) := by decide +kernel
theorem dX3_placeNew_60 : decode cX3_placeNew 60 = .ok (.aload_n 0, 1) := by decide +kernel
theorem dX3_placeNew_61 : decode cX3_placeNew 61 = .ok (.getfield 27, 3) := by decide +kernel
theorem dX3_placeNew_64 : decode cX3_placeNew 64 = .ok (.ifCond .eq 7, 3) := by decide +kernel
theorem dX3_placeNew_67 : decode cX3_placeNew 67 = .ok (.iconst 2, 1) := by decide +kernel
theorem dX3_placeNew_68 : decode cX3_placeNew 68 = .ok (.goto 4, 3) := by decide +kernel
theorem dX3_placeNew_71 : decode cX3_placeNew 71 = .ok (.iconst 0, 1) := by decide +kernel
theorem dX3_placeNew_72 : decode cX3_placeNew 72 = .ok (.invokevirtual 56, 3) := by decide +kernel
theorem dX3_placeNew_75 : decode cX3_placeNew 75 = .ok (.return_, 1) := by decide +kernel
theorem dX3_collectNow_0 : decode cX3_collectNow 0 = .ok (.aload_n 0, 1) := by decide +kernel
theorem dX3_collectNow_1 : decode cX3_collectNow 1 = .ok (.invokevirtual 59, 3) := by decide +kernel
theorem dX3_collectNow_4 : decode cX3_collectNow 4 = .ok (.istore_n 1, 1) := by decide +kernel
theorem dX3_collectNow_5 : decode cX3_collectNow 5 = .ok (.aload_n 0, 1) := by decide +kernel
theorem dX3_collectNow_6 : decode cX3_collectNow 6 = .ok (.getfield 27, 3) := by decide +kernel
theorem dX3_collectNow_9 : decode cX3_collectNow 9 = .ok (.ifCond .ne 7, 3) := by decide +kernel
theorem dX3_collectNow_12 : decode cX3_collectNow 12 = .ok (.aload_n 0, 1) := by decide +kernel
theorem dX3_collectNow_13 : decode cX3_collectNow 13 = .ok (.invokevirtual 62, 3) := by decide +kernel
theorem dX3_collectNow_16 : decode cX3_collectNow 16 = .ok (.iconst 0, 1) := by decide +kernel
theorem dX3_collectNow_17 : decode cX3_collectNow 17 = .ok (.istore_n 2, 1) := by decide +kernel
theorem dX3_collectNow_18 : decode cX3_collectNow 18 = .ok (.aload_n 0, 1) := by decide +kernel
theorem dX3_collectNow_19 : decode cX3_collectNow 19 = .ok (.getfield 27, 3) := by decide +kernel
theorem dX3_collectNow_22 : decode cX3_collectNow 22 = .ok (.ifCond .eq 19, 3) := by decide +kernel
theorem dX3_collectNow_25 : decode cX3_collectNow 25 = .ok (.iload_n 2, 1) := by decide +kernel
theorem dX3_collectNow_26 : decode cX3_collectNow 26 = .ok (.bipush 80, 2) := by decide +kernel
theorem dX3_collectNow_28 : decode cX3_collectNow 28 = .ok (.if_icmp .gt 13, 3) := by decide +kernel
theorem dX3_collectNow_31 : decode cX3_collectNow 31 = .ok (.aload_n 0, 1) := by decide +kernel
theorem dX3_collectNow_32 : decode cX3_collectNow 32 = .ok (.invokevirtual 65, 3) := by decide +kernel
theorem dX3_collectNow_35 : decode cX3_collectNow 35 = .ok (.iinc 2 1, 3) := by decide +kernel
theorem dX3_collectNow_38 : decode cX3_collectNow 38 = .ok (.goto (-20), 3) := by decide +kernel
theorem dX3_collectNow_41 : decode cX3_collectNow 41 = .ok (.iload_n 1, 1) := by decide +kernel
theorem dX3_collectNow_42 : decode cX3_collectNow 42 = .ok (.aload_n 0, 1) := by decide +kernel
theorem dX3_collectNow_43 : decode cX3_collectNow 43 = .ok (.invokevirtual 59, 3) := by decide +kernel
theorem dX3_collectNow_46 : decode cX3_collectNow 46 = .ok (.isub, 1) := by decide +kernel
theorem dX3_collectNow_47 : decode cX3_collectNow 47 = .ok (.ireturn, 1) := by decide +kernel
theorem dX3_goOn_0 : decode cX3_goOn 0 = .ok (.aload_n 0, 1) := by decide +kernel
theorem dX3_goOn_1 : decode cX3_goOn 1 = .ok (.getfield 68, 3) := by decide +kernel
theorem dX3_goOn_4 : decode cX3_goOn 4 = .ok (.ifCond .eq 5, 3) := by decide +kernel
theorem dX3_goOn_7 : decode cX3_goOn 7 = .ok (.iconst (-1), 1) := by decide +kernel
theorem dX3_goOn_8 : decode cX3_goOn 8 = .ok (.ireturn, 1) := by decide +kernel
theorem dX3_goOn_9 : decode cX3_goOn 9 = .ok (.aload_n 0, 1) := by decide +kernel
theorem dX3_goOn_10 : decode cX3_goOn 10 = .ok (.getfield 27, 3) := by decide +kernel
theorem dX3_goOn_13 : decode cX3_goOn 13 = .ok (.ifCond .ne 7, 3) := by decide +kernel
theorem dX3_goOn_16 : decode cX3_goOn 16 = .ok (.aload_n 0, 1) := by decide +kernel
theorem dX3_goOn_17 : decode cX3_goOn 17 = .ok (.invokevirtual 62, 3) := by decide +kernel
theorem dX3_goOn_20 : decode cX3_goOn 20 = .ok (.iconst 0, 1) := by decide +kernel
theorem dX3_goOn_21 : decode cX3_goOn 21 = .ok (.istore_n 2, 1) := by decide +kernel
theorem dX3_goOn_22 : decode cX3_goOn 22 = .ok (.aload_n 0, 1) := by decide +kernel
theorem dX3_goOn_23 : decode cX3_goOn 23 = .ok (.getfield 27, 3) := by decide +kernel
theorem dX3_goOn_26 : decode cX3_goOn 26 = .ok (.ifCond .eq 18, 3) := by decide +kernel
theorem dX3_goOn_29 : decode cX3_goOn 29 = .ok (.iload_n 2, 1) := by decide +kernel
theorem dX3_goOn_30 : decode cX3_goOn 30 = .ok (.iload_n 1, 1) := by decide +kernel
theorem dX3_goOn_31 : decode cX3_goOn 31 = .ok (.if_icmp .ge 13, 3) := by decide +kernel
theorem dX3_goOn_34 : decode cX3_goOn 34 = .ok (.aload_n 0, 1) := by decide +kernel
theorem dX3_goOn_35 : decode cX3_goOn 35 = .ok (.invokevirtual 65, 3) := by decide +kernel
theorem dX3_goOn_38 : decode cX3_goOn 38 = .ok (.iinc 2 1, 3) := by decide +kernel
theorem dX3_goOn_41 : decode cX3_goOn 41 = .ok (.goto (-19), 3) := by decide +kernel
theorem dX3_goOn_44 : decode cX3_goOn 44 = .ok (.aload_n 0, 1) := by decide +kernel
theorem dX3_goOn_45 : decode cX3_goOn 45 = .ok (.getfield 27, 3) := by decide +kernel
theorem dX3_goOn_48 : decode cX3_goOn 48 = .ok (.ifCond .eq 18, 3) := by decide +kernel
theorem dX3_goOn_51 : decode cX3_goOn 51 = .ok (.aload_n 0, 1) := by decide +kernel
theorem dX3_goOn_52 : decode cX3_goOn 52 = .ok (.getfield 20, 3) := by decide +kernel
theorem dX3_goOn_55 : decode cX3_goOn 55 = .ok (.getfield 71, 3) := by decide +kernel
theorem dX3_goOn_58 : decode cX3_goOn 58 = .ok (.aload_n 0, 1) := by decide +kernel
theorem dX3_goOn_59 : decode cX3_goOn 59 = .ok (.getfield 34, 3) := by decide +kernel
theorem dX3_goOn_62 : decode cX3_goOn 62 = .ok (.isub, 1) := by decide +kernel
theorem dX3_goOn_63 : decode cX3_goOn 63 = .ok (.goto 4, 3) := by decide +kernel
theorem dX3_goOn_66 : decode cX3_goOn 66 = .ok (.iconst (-1), 1) := by decide +kernel
theorem dX3_goOn_67 : decode cX3_goOn 67 = .ok (.ireturn, 1) := by decide +kernel
theorem dX3_learnNaming_0 : decode cX3_learnNaming 0 = .ok (.aload_n 0, 1) := by decide +kernel
theorem dX3_learnNaming_1 : decode cX3_learnNaming 1 = .ok (.getfield 27, 3) := by decide +kernel
theorem dX3_learnNaming_4 : decode cX3_learnNaming 4 = .ok (.ifCond .eq 22, 3) := by decide +kernel
theorem dX3_learnNaming_7 : decode cX3_learnNaming 7 = .ok (.iload_n 1, 1) := by decide +kernel
theorem dX3_learnNaming_8 : decode cX3_learnNaming 8 = .ok (.iconst (-1), 1) := by decide +kernel
theorem dX3_learnNaming_9 : decode cX3_learnNaming 9 = .ok (.if_icmp .eq 12, 3) := by decide +kernel
theorem dX3_learnNaming_12 : decode cX3_learnNaming 12 = .ok (.aload_n 0, 1) := by decide +kernel
theorem dX3_learnNaming_13 : decode cX3_learnNaming 13 = .ok (.iload_n 1, 1) := by decide +kernel
theorem dX3_learnNaming_14 : decode cX3_learnNaming 14 = .ok (.invokevirtual 74, 3) := by decide +kernel
theorem dX3_learnNaming_17 : decode cX3_learnNaming 17 = .ok (.iconst 2, 1) := by decide +kernel
theorem dX3_learnNaming_18 : decode cX3_learnNaming 18 = .ok (.if_icmp .ne 8, 3) := by decide +kernel
theorem dX3_learnNaming_21 : decode cX3_learnNaming 21 = .ok (.aload_n 0, 1) := by decide +kernel
theorem dX3_learnNaming_22 : decode cX3_learnNaming 22 = .ok (.iload_n 3, 1) := by decide +kernel
theorem dX3_learnNaming_23 : decode cX3_learnNaming 23 = .ok (.invokevirtual 77, 3) := by decide +kernel
theorem dX3_learnNaming_26 : decode cX3_learnNaming 26 = .ok (.return_, 1) := by decide +kernel
theorem dX3_countToGo_0 : decode cX3_countToGo 0 = .ok (.aload_n 0, 1) := by decide +kernel
theorem dX3_countToGo_1 : decode cX3_countToGo 1 = .ok (.invokevirtual 81, 3) := by decide +kernel
theorem dX3_countToGo_4 : decode cX3_countToGo 4 = .ok (.iconst 0, 1) := by decide +kernel
theorem dX3_countToGo_5 : decode cX3_countToGo 5 = .ok (.istore_n 1, 1) := by decide +kernel
theorem dX3_countToGo_6 : decode cX3_countToGo 6 = .ok (.iconst 0, 1) := by decide +kernel
theorem dX3_countToGo_7 : decode cX3_countToGo 7 = .ok (.istore_n 2, 1) := by decide +kernel
theorem dX3_countToGo_8 : decode cX3_countToGo 8 = .ok (.iload_n 2, 1) := by decide +kernel
theorem dX3_countToGo_9 : decode cX3_countToGo 9 = .ok (.aload_n 0, 1) := by decide +kernel
theorem dX3_countToGo_10 : decode cX3_countToGo 10 = .ok (.getfield 84, 3) := by decide +kernel
theorem dX3_countToGo_13 : decode cX3_countToGo 13 = .ok (.getfield 88, 3) := by decide +kernel
theorem dX3_countToGo_16 : decode cX3_countToGo 16 = .ok (.if_icmp .ge 36, 3) := by decide +kernel
theorem dX3_countToGo_19 : decode cX3_countToGo 19 = .ok (.iload_n 1, 1) := by decide +kernel
theorem dX3_countToGo_20 : decode cX3_countToGo 20 = .ok (.aload_n 0, 1) := by decide +kernel
theorem dX3_countToGo_21 : decode cX3_countToGo 21 = .ok (.iload_n 2, 1) := by decide +kernel
theorem dX3_countToGo_22 : decode cX3_countToGo 22 = .ok (.invokevirtual 74, 3) := by decide +kernel
theorem dX3_countToGo_25 : decode cX3_countToGo 25 = .ok (.ifCond .ne 18, 3) := by decide +kernel
theorem dX3_countToGo_28 : decode cX3_countToGo 28 = .ok (.aload_n 0, 1) := by decide +kernel
theorem dX3_countToGo_29 : decode cX3_countToGo 29 = .ok (.getfield 24, 3) := by decide +kernel
theorem dX3_countToGo_32 : decode cX3_countToGo 32 = .ok (.iload_n 2, 1) := by decide +kernel
theorem dX3_countToGo_33 : decode cX3_countToGo 33 = .ok (.invokevirtual 93, 3) := by decide +kernel
theorem dX3_countToGo_36 : decode cX3_countToGo 36 = .ok (.ifCond .ne 7, 3) := by decide +kernel
theorem dX3_countToGo_39 : decode cX3_countToGo 39 = .ok (.iconst 1, 1) := by decide +kernel
theorem dX3_countToGo_40 : decode cX3_countToGo 40 = .ok (.goto 4, 3) := by decide +kernel
theorem dX3_countToGo_43 : decode cX3_countToGo 43 = .ok (.iconst 0, 1) := by decide +kernel
theorem dX3_countToGo_44 : decode cX3_countToGo 44 = .ok (.iadd, 1) := by decide +kernel
theorem dX3_countToGo_45 : decode cX3_countToGo 45 = .ok (.istore_n 1, 1) := by decide +kernel
theorem dX3_countToGo_46 : decode cX3_countToGo 46 = .ok (.iinc 2 1, 3) := by decide +kernel
theorem dX3_countToGo_49 : decode cX3_countToGo 49 = .ok (.goto (-41), 3) := by decide +kernel
theorem dX3_countToGo_52 : decode cX3_countToGo 52 = .ok (.iload_n 1, 1) := by decide +kernel
theorem dX3_countToGo_53 : decode cX3_countToGo 53 = .ok (.ireturn, 1) := by decide +kernel
theorem dX3_workToDo_0 : decode cX3_workToDo 0 = .ok (.aload_n 0, 1) := by decide +kernel
theorem dX3_workToDo_1 : decode cX3_workToDo 1 = .ok (.invokevirtual 81, 3) := by decide +kernel
theorem dX3_workToDo_4 : decode cX3_workToDo 4 = .ok (.aload_n 0, 1) := by decide +kernel
theorem dX3_workToDo_5 : decode cX3_workToDo 5 = .ok (.invokevirtual 59, 3) := by decide +kernel
theorem dX3_workToDo_8 : decode cX3_workToDo 8 = .ok (.istore_n 1, 1) := by decide +kernel
theorem dX3_workToDo_9 : decode cX3_workToDo 9 = .ok (.iconst 0, 1) := by decide +kernel
theorem dX3_workToDo_10 : decode cX3_workToDo 10 = .ok (.istore_n 2, 1) := by decide +kernel
theorem dX3_workToDo_11 : decode cX3_workToDo 11 = .ok (.iload_n 2, 1) := by decide +kernel
theorem dX3_workToDo_12 : decode cX3_workToDo 12 = .ok (.aload_n 0, 1) := by decide +kernel
theorem dX3_workToDo_13 : decode cX3_workToDo 13 = .ok (.getfield 24, 3) := by decide +kernel
theorem dX3_workToDo_16 : decode cX3_workToDo 16 = .ok (.getfield 71, 3) := by decide +kernel
theorem dX3_workToDo_19 : decode cX3_workToDo 19 = .ok (.if_icmp .ge 27, 3) := by decide +kernel
theorem dX3_workToDo_22 : decode cX3_workToDo 22 = .ok (.iload_n 1, 1) := by decide +kernel
theorem dX3_workToDo_23 : decode cX3_workToDo 23 = .ok (.aload_n 0, 1) := by decide +kernel
theorem dX3_workToDo_24 : decode cX3_workToDo 24 = .ok (.getfield 84, 3) := by decide +kernel
theorem dX3_workToDo_27 : decode cX3_workToDo 27 = .ok (.aload_n 0, 1) := by decide +kernel
theorem dX3_workToDo_28 : decode cX3_workToDo 28 = .ok (.getfield 24, 3) := by decide +kernel
theorem dX3_workToDo_31 : decode cX3_workToDo 31 = .ok (.iload_n 2, 1) := by decide +kernel
theorem dX3_workToDo_32 : decode cX3_workToDo 32 = .ok (.invokevirtual 97, 3) := by decide +kernel
theorem dX3_workToDo_35 : decode cX3_workToDo 35 = .ok (.invokevirtual 100, 3) := by decide +kernel
theorem dX3_workToDo_38 : decode cX3_workToDo 38 = .ok (.iadd, 1) := by decide +kernel
theorem dX3_workToDo_39 : decode cX3_workToDo 39 = .ok (.istore_n 1, 1) := by decide +kernel
theorem dX3_workToDo_40 : decode cX3_workToDo 40 = .ok (.iinc 2 1, 3) := by decide +kernel
theorem dX3_workToDo_43 : decode cX3_workToDo 43 = .ok (.goto (-32), 3) := by decide +kernel
theorem dX3_workToDo_46 : decode cX3_workToDo 46 = .ok (.iload_n 1, 1) := by decide +kernel
theorem dX3_workToDo_47 : decode cX3_workToDo 47 = .ok (.ireturn, 1) := by decide +kernel
theorem dX3_colourOf_0 : decode cX3_colourOf 0 = .ok (.aload_n 0, 1) := by decide +kernel
theorem dX3_colourOf_1 : decode cX3_colourOf 1 = .ok (.iload_n 1, 1) := by decide +kernel
theorem dX3_colourOf_2 : decode cX3_colourOf 2 = .ok (.invokevirtual 103, 3) := by decide +kernel
theorem dX3_colourOf_5 : decode cX3_colourOf 5 = .ok (.ifCond .eq 23, 3) := by decide +kernel
theorem dX3_colourOf_8 : decode cX3_colourOf 8 = .ok (.aload_n 0, 1) := by decide +kernel
theorem dX3_colourOf_9 : decode cX3_colourOf 9 = .ok (.getfield 84, 3) := by decide +kernel
theorem dX3_colourOf_12 : decode cX3_colourOf 12 = .ok (.iload_n 1, 1) := by decide +kernel
theorem dX3_colourOf_13 : decode cX3_colourOf 13 = .ok (.invokevirtual 106, 3) := by decide +kernel
theorem dX3_colourOf_16 : decode cX3_colourOf 16 = .ok (.ifCond .eq 12, 3) := by decide +kernel
theorem dX3_colourOf_19 : decode cX3_colourOf 19 = .ok (.aload_n 0, 1) := by decide +kernel
theorem dX3_colourOf_20 : decode cX3_colourOf 20 = .ok (.getfield 9, 3) := by decide +kernel
theorem dX3_colourOf_23 : decode cX3_colourOf 23 = .ok (.iload_n 1, 1) := by decide +kernel
theorem dX3_colourOf_24 : decode cX3_colourOf 24 = .ok (.iaload, 1) := by decide +kernel
theorem dX3_colourOf_25 : decode cX3_colourOf 25 = .ok (.goto 4, 3) := by decide +kernel
theorem dX3_colourOf_28 : decode cX3_colourOf 28 = .ok (.iconst (-1), 1) := by decide +kernel
theorem dX3_colourOf_29 : decode cX3_colourOf 29 = .ok (.ireturn, 1) := by decide +kernel
theorem dX3_paint_0 : decode cX3_paint 0 = .ok (.aload_n 0, 1) := by decide +kernel
theorem dX3_paint_1 : decode cX3_paint 1 = .ok (.getfield 84, 3) := by decide +kernel
theorem dX3_paint_4 : decode cX3_paint 4 = .ok (.iload_n 1, 1) := by decide +kernel
theorem dX3_paint_5 : decode cX3_paint 5 = .ok (.invokevirtual 106, 3) := by decide +kernel
theorem dX3_paint_8 : decode cX3_paint 8 = .ok (.ifCond .eq 10, 3) := by decide +kernel
theorem dX3_paint_11 : decode cX3_paint 11 = .ok (.aload_n 0, 1) := by decide +kernel
theorem dX3_paint_12 : decode cX3_paint 12 = .ok (.getfield 9, 3) := by decide +kernel
theorem dX3_paint_15 : decode cX3_paint 15 = .ok (.iload_n 1, 1) := by decide +kernel
theorem dX3_paint_16 : decode cX3_paint 16 = .ok (.iload_n 2, 1) := by decide +kernel
theorem dX3_paint_17 : decode cX3_paint 17 = .ok (.iastore, 1) := by decide +kernel
theorem dX3_paint_18 : decode cX3_paint 18 = .ok (.return_, 1) := by decide +kernel
theorem dX3_workAheadOfPlacing_0 : decode cX3_workAheadOfPlacing 0 = .ok (.aload_n 0, 1) := by decide +kernel
theorem dX3_workAheadOfPlacing_1 : decode cX3_workAheadOfPlacing 1 = .ok (.getfield 27, 3) := by decide +kernel
theorem dX3_workAheadOfPlacing_4 : decode cX3_workAheadOfPlacing 4 = .ok (.ifCond .ne 26, 3) := by decide +kernel
theorem dX3_workAheadOfPlacing_7 : decode cX3_workAheadOfPlacing 7 = .ok (.aload_n 0, 1) := by decide +kernel
theorem dX3_workAheadOfPlacing_8 : decode cX3_workAheadOfPlacing 8 = .ok (.getfield 109, 3) := by decide +kernel
theorem dX3_workAheadOfPlacing_11 : decode cX3_workAheadOfPlacing 11 = .ok (.aload_n 0, 1) := by decide +kernel
theorem dX3_workAheadOfPlacing_12 : decode cX3_workAheadOfPlacing 12 = .ok (.invokevirtual 112, 3) := by decide +kernel
theorem dX3_workAheadOfPlacing_15 : decode cX3_workAheadOfPlacing 15 = .ok (.isub, 1) := by decide +kernel
theorem dX3_workAheadOfPlacing_16 : decode cX3_workAheadOfPlacing 16 = .ok (.aload_n 0, 1) := by decide +kernel
theorem dX3_workAheadOfPlacing_17 : decode cX3_workAheadOfPlacing 17 = .ok (.getfield 109, 3) := by decide +kernel
theorem dX3_workAheadOfPlacing_20 : decode cX3_workAheadOfPlacing 20 = .ok (.iconst 2, 1) := by decide +kernel
theorem dX3_workAheadOfPlacing_21 : decode cX3_workAheadOfPlacing 21 = .ok (.idiv, 1) := by decide +kernel
theorem dX3_workAheadOfPlacing_22 : decode cX3_workAheadOfPlacing 22 = .ok (.if_icmp .ge 7, 3) := by decide +kernel
theorem dX3_workAheadOfPlacing_25 : decode cX3_workAheadOfPlacing 25 = .ok (.aload_n 0, 1) := by decide +kernel
theorem dX3_workAheadOfPlacing_26 : decode cX3_workAheadOfPlacing 26 = .ok (.invokevirtual 62, 3) := by decide +kernel
theorem dX3_workAheadOfPlacing_29 : decode cX3_workAheadOfPlacing 29 = .ok (.return_, 1) := by decide +kernel
theorem dX3_workAheadOfPlacing_30 : decode cX3_workAheadOfPlacing 30 = .ok (.iconst 0, 1) := by decide +kernel
theorem dX3_workAheadOfPlacing_31 : decode cX3_workAheadOfPlacing 31 = .ok (.istore_n 1, 1) := by decide +kernel
theorem dX3_workAheadOfPlacing_32 : decode cX3_workAheadOfPlacing 32 = .ok (.aload_n 0, 1) := by decide +kernel
theorem dX3_workAheadOfPlacing_33 : decode cX3_workAheadOfPlacing 33 = .ok (.getfield 27, 3) := by decide +kernel
theorem dX3_workAheadOfPlacing_36 : decode cX3_workAheadOfPlacing 36 = .ok (.ifCond .eq 18, 3) := by decide +kernel
theorem dX3_workAheadOfPlacing_39 : decode cX3_workAheadOfPlacing 39 = .ok (.iload_n 1, 1) := by decide +kernel
theorem dX3_workAheadOfPlacing_40 : decode cX3_workAheadOfPlacing 40 = .ok (.iconst 2, 1) := by decide +kernel
theorem dX3_workAheadOfPlacing_41 : decode cX3_workAheadOfPlacing 41 = .ok (.if_icmp .ge 13, 3) := by decide +kernel
theorem dX3_workAheadOfPlacing_44 : decode cX3_workAheadOfPlacing 44 = .ok (.aload_n 0, 1) := by decide +kernel
theorem dX3_workAheadOfPlacing_45 : decode cX3_workAheadOfPlacing 45 = .ok (.invokevirtual 65, 3) := by decide +kernel
theorem dX3_workAheadOfPlacing_48 : decode cX3_workAheadOfPlacing 48 = .ok (.iinc 1 1, 3) := by decide +kernel
theorem dX3_workAheadOfPlacing_51 : decode cX3_workAheadOfPlacing 51 = .ok (.goto (-19), 3) := by decide +kernel
theorem dX3_workAheadOfPlacing_54 : decode cX3_workAheadOfPlacing 54 = .ok (.return_, 1) := by decide +kernel
theorem dX3_beginToMark_0 : decode cX3_beginToMark 0 = .ok (.aload_n 0, 1) := by decide +kernel
theorem dX3_beginToMark_1 : decode cX3_beginToMark 1 = .ok (.iconst 1, 1) := by decide +kernel
theorem dX3_beginToMark_2 : decode cX3_beginToMark 2 = .ok (.putfield 27, 3) := by decide +kernel
theorem dX3_beginToMark_5 : decode cX3_beginToMark 5 = .ok (.aload_n 0, 1) := by decide +kernel
theorem dX3_beginToMark_6 : decode cX3_beginToMark 6 = .ok (.getfield 20, 3) := by decide +kernel
theorem dX3_beginToMark_9 : decode cX3_beginToMark 9 = .ok (.invokevirtual 31, 3) := by decide +kernel
theorem dX3_beginToMark_12 : decode cX3_beginToMark 12 = .ok (.aload_n 0, 1) := by decide +kernel
theorem dX3_beginToMark_13 : decode cX3_beginToMark 13 = .ok (.iconst 0, 1) := by decide +kernel
theorem dX3_beginToMark_14 : decode cX3_beginToMark 14 = .ok (.putfield 34, 3) := by decide +kernel
theorem dX3_beginToMark_17 : decode cX3_beginToMark 17 = .ok (.iconst 0, 1) := by decide +kernel
theorem dX3_beginToMark_18 : decode cX3_beginToMark 18 = .ok (.istore_n 1, 1) := by decide +kernel
theorem dX3_beginToMark_19 : decode cX3_beginToMark 19 = .ok (.iload_n 1, 1) := by decide +kernel
theorem dX3_beginToMark_20 : decode cX3_beginToMark 20 = .ok (.bipush 6, 2) := by decide +kernel
theorem dX3_beginToMark_22 : decode cX3_beginToMark 22 = .ok (.if_icmp .ge 21, 3) := by decide +kernel
theorem dX3_beginToMark_25 : decode cX3_beginToMark 25 = .ok (.aload_n 0, 1) := by decide +kernel
theorem dX3_beginToMark_26 : decode cX3_beginToMark 26 = .ok (.aload_n 0, 1) := by decide +kernel
theorem dX3_beginToMark_27 : decode cX3_beginToMark 27 = .ok (.getfield 84, 3) := by decide +kernel
theorem dX3_beginToMark_30 : decode cX3_beginToMark 30 = .ok (.iload_n 1, 1) := by decide +kernel
theorem dX3_beginToMark_31 : decode cX3_beginToMark 31 = .ok (.invokevirtual 115, 3) := by decide +kernel
theorem dX3_beginToMark_34 : decode cX3_beginToMark 34 = .ok (.invokevirtual 77, 3) := by decide +kernel
theorem dX3_beginToMark_37 : decode cX3_beginToMark 37 = .ok (.iinc 1 1, 3) := by decide +kernel
theorem dX3_beginToMark_40 : decode cX3_beginToMark 40 = .ok (.goto (-21), 3) := by decide +kernel
theorem dX3_beginToMark_43 : decode cX3_beginToMark 43 = .ok (.return_, 1) := by decide +kernel
theorem dX3_becomeGrey_0 : decode cX3_becomeGrey 0 = .ok (.aload_n 0, 1) := by decide +kernel
theorem dX3_becomeGrey_1 : decode cX3_becomeGrey 1 = .ok (.iload_n 1, 1) := by decide +kernel
theorem dX3_becomeGrey_2 : decode cX3_becomeGrey 2 = .ok (.invokevirtual 74, 3) := by decide +kernel
theorem dX3_becomeGrey_5 : decode cX3_becomeGrey 5 = .ok (.ifCond .ne 17, 3) := by decide +kernel
theorem dX3_becomeGrey_8 : decode cX3_becomeGrey 8 = .ok (.aload_n 0, 1) := by decide +kernel
theorem dX3_becomeGrey_9 : decode cX3_becomeGrey 9 = .ok (.iload_n 1, 1) := by decide +kernel
theorem dX3_becomeGrey_10 : decode cX3_becomeGrey 10 = .ok (.iconst 1, 1) := by decide +kernel
theorem dX3_becomeGrey_11 : decode cX3_becomeGrey 11 = .ok (.invokevirtual 56, 3) := by decide +kernel
theorem dX3_becomeGrey_14 : decode cX3_becomeGrey 14 = .ok (.aload_n 0, 1) := by decide +kernel
theorem dX3_becomeGrey_15 : decode cX3_becomeGrey 15 = .ok (.getfield 20, 3) := by decide +kernel
theorem dX3_becomeGrey_18 : decode cX3_becomeGrey 18 = .ok (.iload_n 1, 1) := by decide +kernel
theorem dX3_becomeGrey_19 : decode cX3_becomeGrey 19 = .ok (.invokevirtual 118, 3) := by decide +kernel
theorem dX3_becomeGrey_22 : decode cX3_becomeGrey 22 = .ok (.return_, 1) := by decide +kernel
theorem dX3_step_0 : decode cX3_step 0 = .ok (.aload_n 0, 1) := by decide +kernel
theorem dX3_step_1 : decode cX3_step 1 = .ok (.getfield 34, 3) := by decide +kernel
theorem dX3_step_4 : decode cX3_step 4 = .ok (.aload_n 0, 1) := by decide +kernel
theorem dX3_step_5 : decode cX3_step 5 = .ok (.getfield 20, 3) := by decide +kernel
theorem dX3_step_8 : decode cX3_step 8 = .ok (.getfield 71, 3) := by decide +kernel
theorem dX3_step_11 : decode cX3_step 11 = .ok (.if_icmp .lt 8, 3) := by decide +kernel
theorem dX3_step_14 : decode cX3_step 14 = .ok (.aload_n 0, 1) := by decide +kernel
theorem dX3_step_15 : decode cX3_step 15 = .ok (.invokevirtual 121, 3) := by decide +kernel
theorem dX3_step_18 : decode cX3_step 18 = .ok (.return_, 1) := by decide +kernel
theorem dX3_step_19 : decode cX3_step 19 = .ok (.aload_n 0, 1) := by decide +kernel
theorem dX3_step_20 : decode cX3_step 20 = .ok (.getfield 20, 3) := by decide +kernel
theorem dX3_step_23 : decode cX3_step 23 = .ok (.aload_n 0, 1) := by decide +kernel
theorem dX3_step_24 : decode cX3_step 24 = .ok (.getfield 34, 3) := by decide +kernel
theorem dX3_step_27 : decode cX3_step 27 = .ok (.invokevirtual 97, 3) := by decide +kernel
theorem dX3_step_30 : decode cX3_step 30 = .ok (.istore_n 1, 1) := by decide +kernel
theorem dX3_step_31 : decode cX3_step 31 = .ok (.aload_n 0, 1) := by decide +kernel
theorem dX3_step_32 : decode cX3_step 32 = .ok (.dup, 1) := by decide +kernel
theorem dX3_step_33 : decode cX3_step 33 = .ok (.getfield 34, 3) := by decide +kernel
theorem dX3_step_36 : decode cX3_step 36 = .ok (.iconst 1, 1) := by decide +kernel
theorem dX3_step_37 : decode cX3_step 37 = .ok (.iadd, 1) := by decide +kernel
theorem dX3_step_38 : decode cX3_step 38 = .ok (.putfield 34, 3) := by decide +kernel
theorem dX3_step_41 : decode cX3_step 41 = .ok (.aload_n 0, 1) := by decide +kernel
theorem dX3_step_42 : decode cX3_step 42 = .ok (.iload_n 1, 1) := by decide +kernel
theorem dX3_step_43 : decode cX3_step 43 = .ok (.iconst 2, 1) := by decide +kernel
theorem dX3_step_44 : decode cX3_step 44 = .ok (.invokevirtual 56, 3) := by decide +kernel
theorem dX3_step_47 : decode cX3_step 47 = .ok (.iconst 0, 1) := by decide +kernel
theorem dX3_step_48 : decode cX3_step 48 = .ok (.istore_n 2, 1) := by decide +kernel
theorem dX3_step_49 : decode cX3_step 49 = .ok (.iload_n 2, 1) := by decide +kernel
theorem dX3_step_50 : decode cX3_step 50 = .ok (.aload_n 0, 1) := by decide +kernel
theorem dX3_step_51 : decode cX3_step 51 = .ok (.getfield 84, 3) := by decide +kernel
theorem dX3_step_54 : decode cX3_step 54 = .ok (.iload_n 1, 1) := by decide +kernel
theorem dX3_step_55 : decode cX3_step 55 = .ok (.invokevirtual 124, 3) := by decide +kernel
theorem dX3_step_58 : decode cX3_step 58 = .ok (.if_icmp .ge 22, 3) := by decide +kernel
theorem dX3_step_61 : decode cX3_step 61 = .ok (.aload_n 0, 1) := by decide +kernel
theorem dX3_step_62 : decode cX3_step 62 = .ok (.aload_n 0, 1) := by decide +kernel
theorem dX3_step_63 : decode cX3_step 63 = .ok (.getfield 84, 3) := by decide +kernel
theorem dX3_step_66 : decode cX3_step 66 = .ok (.iload_n 1, 1) := by decide +kernel
theorem dX3_step_67 : decode cX3_step 67 = .ok (.iload_n 2, 1) := by decide +kernel
theorem dX3_step_68 : decode cX3_step 68 = .ok (.invokevirtual 127, 3) := by decide +kernel
theorem dX3_step_71 : decode cX3_step 71 = .ok (.invokevirtual 77, 3) := by decide +kernel
theorem dX3_step_74 : decode cX3_step 74 = .ok (.iinc 2 1, 3) := by decide +kernel
theorem dX3_step_77 : decode cX3_step 77 = .ok (.goto (-28), 3) := by decide +kernel
theorem dX3_step_80 : decode cX3_step 80 = .ok (.aload_n 0, 1) := by decide +kernel
theorem dX3_step_81 : decode cX3_step 81 = .ok (.dup, 1) := by decide +kernel
theorem dX3_step_82 : decode cX3_step 82 = .ok (.getfield 131, 3) := by decide +kernel
theorem dX3_step_85 : decode cX3_step 85 = .ok (.aload_n 0, 1) := by decide +kernel
theorem dX3_step_86 : decode cX3_step 86 = .ok (.getfield 84, 3) := by decide +kernel
theorem dX3_step_89 : decode cX3_step 89 = .ok (.iload_n 1, 1) := by decide +kernel
theorem dX3_step_90 : decode cX3_step 90 = .ok (.invokevirtual 100, 3) := by decide +kernel
theorem dX3_step_93 : decode cX3_step 93 = .ok (.iadd, 1) := by decide +kernel
theorem dX3_step_94 : decode cX3_step 94 = .ok (.putfield 131, 3) := by decide +kernel
theorem dX3_step_97 : decode cX3_step 97 = .ok (.return_, 1) := by decide +kernel
theorem dX3_sweep_0 : decode cX3_sweep 0 = .ok (.aload_n 0, 1) := by decide +kernel
theorem dX3_sweep_1 : decode cX3_sweep 1 = .ok (.dup, 1) := by decide +kernel
theorem dX3_sweep_2 : decode cX3_sweep 2 = .ok (.getfield 131, 3) := by decide +kernel
theorem dX3_sweep_5 : decode cX3_sweep 5 = .ok (.aload_n 0, 1) := by decide +kernel
theorem dX3_sweep_6 : decode cX3_sweep 6 = .ok (.invokevirtual 59, 3) := by decide +kernel
theorem dX3_sweep_9 : decode cX3_sweep 9 = .ok (.iadd, 1) := by decide +kernel
theorem dX3_sweep_10 : decode cX3_sweep 10 = .ok (.putfield 131, 3) := by decide +kernel
theorem dX3_sweep_13 : decode cX3_sweep 13 = .ok (.iconst 0, 1) := by decide +kernel
theorem dX3_sweep_14 : decode cX3_sweep 14 = .ok (.istore_n 1, 1) := by decide +kernel
theorem dX3_sweep_15 : decode cX3_sweep 15 = .ok (.iload_n 1, 1) := by decide +kernel
theorem dX3_sweep_16 : decode cX3_sweep 16 = .ok (.aload_n 0, 1) := by decide +kernel
theorem dX3_sweep_17 : decode cX3_sweep 17 = .ok (.getfield 84, 3) := by decide +kernel
theorem dX3_sweep_20 : decode cX3_sweep 20 = .ok (.getfield 88, 3) := by decide +kernel
theorem dX3_sweep_23 : decode cX3_sweep 23 = .ok (.if_icmp .ge 28, 3) := by decide +kernel
theorem dX3_sweep_26 : decode cX3_sweep 26 = .ok (.aload_n 0, 1) := by decide +kernel
theorem dX3_sweep_27 : decode cX3_sweep 27 = .ok (.iload_n 1, 1) := by decide +kernel
theorem dX3_sweep_28 : decode cX3_sweep 28 = .ok (.invokevirtual 74, 3) := by decide +kernel
theorem dX3_sweep_31 : decode cX3_sweep 31 = .ok (.ifCond .ne 8, 3) := by decide +kernel
theorem dX3_sweep_34 : decode cX3_sweep 34 = .ok (.aload_n 0, 1) := by decide +kernel
theorem dX3_sweep_35 : decode cX3_sweep 35 = .ok (.iload_n 1, 1) := by decide +kernel
theorem dX3_sweep_36 : decode cX3_sweep 36 = .ok (.invokevirtual 134, 3) := by decide +kernel
theorem dX3_sweep_39 : decode cX3_sweep 39 = .ok (.aload_n 0, 1) := by decide +kernel
theorem dX3_sweep_40 : decode cX3_sweep 40 = .ok (.iload_n 1, 1) := by decide +kernel
theorem dX3_sweep_41 : decode cX3_sweep 41 = .ok (.iconst 0, 1) := by decide +kernel
theorem dX3_sweep_42 : decode cX3_sweep 42 = .ok (.invokevirtual 56, 3) := by decide +kernel
theorem dX3_sweep_45 : decode cX3_sweep 45 = .ok (.iinc 1 1, 3) := by decide +kernel
theorem dX3_sweep_48 : decode cX3_sweep 48 = .ok (.goto (-33), 3) := by decide +kernel
theorem dX3_sweep_51 : decode cX3_sweep 51 = .ok (.aload_n 0, 1) := by decide +kernel
theorem dX3_sweep_52 : decode cX3_sweep 52 = .ok (.iconst 0, 1) := by decide +kernel
theorem dX3_sweep_53 : decode cX3_sweep 53 = .ok (.putfield 27, 3) := by decide +kernel
theorem dX3_sweep_56 : decode cX3_sweep 56 = .ok (.aload_n 0, 1) := by decide +kernel
theorem dX3_sweep_57 : decode cX3_sweep 57 = .ok (.dup, 1) := by decide +kernel
theorem dX3_sweep_58 : decode cX3_sweep 58 = .ok (.getfield 137, 3) := by decide +kernel
theorem dX3_sweep_61 : decode cX3_sweep 61 = .ok (.iconst 1, 1) := by decide +kernel
theorem dX3_sweep_62 : decode cX3_sweep 62 = .ok (.iadd, 1) := by decide +kernel
theorem dX3_sweep_63 : decode cX3_sweep 63 = .ok (.putfield 137, 3) := by decide +kernel
theorem dX3_sweep_66 : decode cX3_sweep 66 = .ok (.return_, 1) := by decide +kernel
theorem dX3_foresee_0 : decode cX3_foresee 0 = .ok (.aload_n 0, 1) := by decide +kernel
theorem dX3_foresee_1 : decode cX3_foresee 1 = .ok (.getfield 24, 3) := by decide +kernel
theorem dX3_foresee_4 : decode cX3_foresee 4 = .ok (.invokevirtual 31, 3) := by decide +kernel
theorem dX3_foresee_7 : decode cX3_foresee 7 = .ok (.aload_n 0, 1) := by decide +kernel
theorem dX3_foresee_8 : decode cX3_foresee 8 = .ok (.getfield 34, 3) := by decide +kernel
theorem dX3_foresee_11 : decode cX3_foresee 11 = .ok (.istore_n 1, 1) := by decide +kernel
theorem dX3_foresee_12 : decode cX3_foresee 12 = .ok (.aload_n 0, 1) := by decide +kernel
theorem dX3_foresee_13 : decode cX3_foresee 13 = .ok (.getfield 27, 3) := by decide +kernel
theorem dX3_foresee_16 : decode cX3_foresee 16 = .ok (.ifCond .eq 35, 3) := by decide +kernel
theorem dX3_foresee_19 : decode cX3_foresee 19 = .ok (.iload_n 1, 1) := by decide +kernel
theorem dX3_foresee_20 : decode cX3_foresee 20 = .ok (.aload_n 0, 1) := by decide +kernel
theorem dX3_foresee_21 : decode cX3_foresee 21 = .ok (.getfield 20, 3) := by decide +kernel
theorem dX3_foresee_24 : decode cX3_foresee 24 = .ok (.getfield 71, 3) := by decide +kernel
theorem dX3_foresee_27 : decode cX3_foresee 27 = .ok (.if_icmp .ge 24, 3) := by decide +kernel
theorem dX3_foresee_30 : decode cX3_foresee 30 = .ok (.aload_n 0, 1) := by decide +kernel
theorem dX3_foresee_31 : decode cX3_foresee 31 = .ok (.getfield 24, 3) := by decide +kernel
theorem dX3_foresee_34 : decode cX3_foresee 34 = .ok (.aload_n 0, 1) := by decide +kernel
theorem dX3_foresee_35 : decode cX3_foresee 35 = .ok (.getfield 20, 3) := by decide +kernel
theorem dX3_foresee_38 : decode cX3_foresee 38 = .ok (.iload_n 1, 1) := by decide +kernel
theorem dX3_foresee_39 : decode cX3_foresee 39 = .ok (.invokevirtual 97, 3) := by decide +kernel
theorem dX3_foresee_42 : decode cX3_foresee 42 = .ok (.invokevirtual 118, 3) := by decide +kernel
theorem dX3_foresee_45 : decode cX3_foresee 45 = .ok (.iinc 1 1, 3) := by decide +kernel
theorem dX3_foresee_48 : decode cX3_foresee 48 = .ok (.goto (-36), 3) := by decide +kernel
theorem dX3_foresee_51 : decode cX3_foresee 51 = .ok (.iconst 0, 1) := by decide +kernel
theorem dX3_foresee_52 : decode cX3_foresee 52 = .ok (.istore_n 1, 1) := by decide +kernel
theorem dX3_foresee_53 : decode cX3_foresee 53 = .ok (.aload_n 0, 1) := by decide +kernel
theorem dX3_foresee_54 : decode cX3_foresee 54 = .ok (.getfield 27, 3) := by decide +kernel
theorem dX3_foresee_57 : decode cX3_foresee 57 = .ok (.ifCond .ne 27, 3) := by decide +kernel
theorem dX3_foresee_60 : decode cX3_foresee 60 = .ok (.iload_n 1, 1) := by decide +kernel
theorem dX3_foresee_61 : decode cX3_foresee 61 = .ok (.bipush 6, 2) := by decide +kernel
theorem dX3_foresee_63 : decode cX3_foresee 63 = .ok (.if_icmp .ge 21, 3) := by decide +kernel
theorem dX3_foresee_66 : decode cX3_foresee 66 = .ok (.aload_n 0, 1) := by decide +kernel
theorem dX3_foresee_67 : decode cX3_foresee 67 = .ok (.aload_n 0, 1) := by decide +kernel
theorem dX3_foresee_68 : decode cX3_foresee 68 = .ok (.getfield 84, 3) := by decide +kernel
theorem dX3_foresee_71 : decode cX3_foresee 71 = .ok (.iload_n 1, 1) := by decide +kernel
theorem dX3_foresee_72 : decode cX3_foresee 72 = .ok (.invokevirtual 115, 3) := by decide +kernel
theorem dX3_foresee_75 : decode cX3_foresee 75 = .ok (.invokevirtual 140, 3) := by decide +kernel
theorem dX3_foresee_78 : decode cX3_foresee 78 = .ok (.iinc 1 1, 3) := by decide +kernel
theorem dX3_foresee_81 : decode cX3_foresee 81 = .ok (.goto (-28), 3) := by decide +kernel
theorem dX3_foresee_84 : decode cX3_foresee 84 = .ok (.iconst 0, 1) := by decide +kernel
theorem dX3_foresee_85 : decode cX3_foresee 85 = .ok (.istore_n 1, 1) := by decide +kernel
theorem dX3_foresee_86 : decode cX3_foresee 86 = .ok (.iload_n 1, 1) := by decide +kernel
theorem dX3_foresee_87 : decode cX3_foresee 87 = .ok (.aload_n 0, 1) := by decide +kernel
theorem dX3_foresee_88 : decode cX3_foresee 88 = .ok (.getfield 24, 3) := by decide +kernel
theorem dX3_foresee_91 : decode cX3_foresee 91 = .ok (.getfield 71, 3) := by decide +kernel
theorem dX3_foresee_94 : decode cX3_foresee 94 = .ok (.if_icmp .ge 57, 3) := by decide +kernel
theorem dX3_foresee_97 : decode cX3_foresee 97 = .ok (.iload_n 1, 1) := by decide +kernel
theorem dX3_foresee_98 : decode cX3_foresee 98 = .ok (.bipush 80, 2) := by decide +kernel
theorem dX3_foresee_100 : decode cX3_foresee 100 = .ok (.if_icmp .ge 51, 3) := by decide +kernel
theorem dX3_foresee_103 : decode cX3_foresee 103 = .ok (.aload_n 0, 1) := by decide +kernel
theorem dX3_foresee_104 : decode cX3_foresee 104 = .ok (.getfield 24, 3) := by decide +kernel
theorem dX3_foresee_107 : decode cX3_foresee 107 = .ok (.iload_n 1, 1) := by decide +kernel
theorem dX3_foresee_108 : decode cX3_foresee 108 = .ok (.invokevirtual 97, 3) := by decide +kernel
theorem dX3_foresee_111 : decode cX3_foresee 111 = .ok (.istore_n 2, 1) := by decide +kernel
theorem dX3_foresee_112 : decode cX3_foresee 112 = .ok (.iconst 0, 1) := by decide +kernel
theorem dX3_foresee_113 : decode cX3_foresee 113 = .ok (.istore_n 3, 1) := by decide +kernel
theorem dX3_foresee_114 : decode cX3_foresee 114 = .ok (.iload_n 3, 1) := by decide +kernel
theorem dX3_foresee_115 : decode cX3_foresee 115 = .ok (.aload_n 0, 1) := by decide +kernel
theorem dX3_foresee_116 : decode cX3_foresee 116 = .ok (.getfield 84, 3) := by decide +kernel
theorem dX3_foresee_119 : decode cX3_foresee 119 = .ok (.iload_n 2, 1) := by decide +kernel
theorem dX3_foresee_120 : decode cX3_foresee 120 = .ok (.invokevirtual 124, 3) := by decide +kernel
theorem dX3_foresee_123 : decode cX3_foresee 123 = .ok (.if_icmp .ge 22, 3) := by decide +kernel
theorem dX3_foresee_126 : decode cX3_foresee 126 = .ok (.aload_n 0, 1) := by decide +kernel
theorem dX3_foresee_127 : decode cX3_foresee 127 = .ok (.aload_n 0, 1) := by decide +kernel
theorem dX3_foresee_128 : decode cX3_foresee 128 = .ok (.getfield 84, 3) := by decide +kernel
theorem dX3_foresee_131 : decode cX3_foresee 131 = .ok (.iload_n 2, 1) := by decide +kernel
theorem dX3_foresee_132 : decode cX3_foresee 132 = .ok (.iload_n 3, 1) := by decide +kernel
theorem dX3_foresee_133 : decode cX3_foresee 133 = .ok (.invokevirtual 127, 3) := by decide +kernel
theorem dX3_foresee_136 : decode cX3_foresee 136 = .ok (.invokevirtual 140, 3) := by decide +kernel
theorem dX3_foresee_139 : decode cX3_foresee 139 = .ok (.iinc 3 1, 3) := by decide +kernel
theorem dX3_foresee_142 : decode cX3_foresee 142 = .ok (.goto (-28), 3) := by decide +kernel
theorem dX3_foresee_145 : decode cX3_foresee 145 = .ok (.iinc 1 1, 3) := by decide +kernel
theorem dX3_foresee_148 : decode cX3_foresee 148 = .ok (.goto (-62), 3) := by decide +kernel
theorem dX3_foresee_151 : decode cX3_foresee 151 = .ok (.return_, 1) := by decide +kernel
theorem dX3_foreseeIfWhite_0 : decode cX3_foreseeIfWhite 0 = .ok (.aload_n 0, 1) := by decide +kernel
theorem dX3_foreseeIfWhite_1 : decode cX3_foreseeIfWhite 1 = .ok (.iload_n 1, 1) := by decide +kernel
theorem dX3_foreseeIfWhite_2 : decode cX3_foreseeIfWhite 2 = .ok (.invokevirtual 74, 3) := by decide +kernel
theorem dX3_foreseeIfWhite_5 : decode cX3_foreseeIfWhite 5 = .ok (.ifCond .ne 11, 3) := by decide +kernel
theorem dX3_foreseeIfWhite_8 : decode cX3_foreseeIfWhite 8 = .ok (.aload_n 0, 1) := by decide +kernel
theorem dX3_foreseeIfWhite_9 : decode cX3_foreseeIfWhite 9 = .ok (.getfield 24, 3) := by decide +kernel
theorem dX3_foreseeIfWhite_12 : decode cX3_foreseeIfWhite 12 = .ok (.iload_n 1, 1) := by decide +kernel
theorem dX3_foreseeIfWhite_13 : decode cX3_foreseeIfWhite 13 = .ok (.invokevirtual 118, 3) := by decide +kernel
theorem dX3_foreseeIfWhite_16 : decode cX3_foreseeIfWhite 16 = .ok (.return_, 1) := by decide +kernel
theorem dX4_init_0 : decode cX4_init 0 = .ok (.aload_n 0, 1) := by decide +kernel
theorem dX4_init_1 : decode cX4_init 1 = .ok (.aload_n 1, 1) := by decide +kernel
theorem dX4_init_2 : decode cX4_init 2 = .ok (.invokespecial 3, 3) := by decide +kernel
theorem dX4_init_5 : decode cX4_init 5 = .ok (.aload_n 0, 1) := by decide +kernel
theorem dX4_init_6 : decode cX4_init 6 = .ok (.new 9, 3) := by decide +kernel
theorem dX4_init_9 : decode cX4_init 9 = .ok (.dup, 1) := by decide +kernel
theorem dX4_init_10 : decode cX4_init 10 = .ok (.invokespecial 11, 3) := by decide +kernel
theorem dX4_init_13 : decode cX4_init 13 = .ok (.putfield 14, 3) := by decide +kernel
theorem dX4_init_16 : decode cX4_init 16 = .ok (.aload_n 0, 1) := by decide +kernel
theorem dX4_init_17 : decode cX4_init 17 = .ok (.new 9, 3) := by decide +kernel
theorem dX4_init_20 : decode cX4_init 20 = .ok (.dup, 1) := by decide +kernel
theorem dX4_init_21 : decode cX4_init 21 = .ok (.invokespecial 11, 3) := by decide +kernel
theorem dX4_init_24 : decode cX4_init 24 = .ok (.putfield 20, 3) := by decide +kernel
theorem dX4_init_27 : decode cX4_init 27 = .ok (.aload_n 0, 1) := by decide +kernel
theorem dX4_init_28 : decode cX4_init 28 = .ok (.new 9, 3) := by decide +kernel
theorem dX4_init_31 : decode cX4_init 31 = .ok (.dup, 1) := by decide +kernel
theorem dX4_init_32 : decode cX4_init 32 = .ok (.invokespecial 11, 3) := by decide +kernel
theorem dX4_init_35 : decode cX4_init 35 = .ok (.putfield 23, 3) := by decide +kernel
theorem dX4_init_38 : decode cX4_init 38 = .ok (.aload_n 0, 1) := by decide +kernel
theorem dX4_init_39 : decode cX4_init 39 = .ok (.bipush 80, 2) := by decide +kernel
theorem dX4_init_41 : decode cX4_init 41 = .ok (.newarray .boolean, 2) := by decide +kernel
theorem dX4_init_43 : decode cX4_init 43 = .ok (.putfield 26, 3) := by decide +kernel
theorem dX4_init_46 : decode cX4_init 46 = .ok (.aload_n 0, 1) := by decide +kernel
theorem dX4_init_47 : decode cX4_init 47 = .ok (.bipush 16, 2) := by decide +kernel
theorem dX4_init_49 : decode cX4_init 49 = .ok (.putfield 30, 3) := by decide +kernel
theorem dX4_init_52 : decode cX4_init 52 = .ok (.return_, 1) := by decide +kernel
theorem dX4_forgetThings_0 : decode cX4_forgetThings 0 = .ok (.aload_n 0, 1) := by decide +kernel
theorem dX4_forgetThings_1 : decode cX4_forgetThings 1 = .ok (.getfield 14, 3) := by decide +kernel
theorem dX4_forgetThings_4 : decode cX4_forgetThings 4 = .ok (.invokevirtual 34, 3) := by decide +kernel
theorem dX4_forgetThings_7 : decode cX4_forgetThings 7 = .ok (.aload_n 0, 1) := by decide +kernel
theorem dX4_forgetThings_8 : decode cX4_forgetThings 8 = .ok (.getfield 20, 3) := by decide +kernel
theorem dX4_forgetThings_11 : decode cX4_forgetThings 11 = .ok (.invokevirtual 34, 3) := by decide +kernel
theorem dX4_forgetThings_14 : decode cX4_forgetThings 14 = .ok (.aload_n 0, 1) := by decide +kernel
theorem dX4_forgetThings_15 : decode cX4_forgetThings 15 = .ok (.iconst 0, 1) := by decide +kernel
theorem dX4_forgetThings_16 : decode cX4_forgetThings 16 = .ok (.putfield 37, 3) := by decide +kernel
theorem dX4_forgetThings_19 : decode cX4_forgetThings 19 = .ok (.aload_n 0, 1) := by decide +kernel
theorem dX4_forgetThings_20 : decode cX4_forgetThings 20 = .ok (.aload_n 0, 1) := by decide +kernel
theorem dX4_forgetThings_21 : decode cX4_forgetThings 21 = .ok (.getfield 40, 3) := by decide +kernel
theorem dX4_forgetThings_24 : decode cX4_forgetThings 24 = .ok (.iconst 4, 1) := by decide +kernel
theorem dX4_forgetThings_25 : decode cX4_forgetThings 25 = .ok (.idiv, 1) := by decide +kernel
theorem dX4_forgetThings_26 : decode cX4_forgetThings 26 = .ok (.putfield 30, 3) := by decide +kernel
theorem dX4_forgetThings_29 : decode cX4_forgetThings 29 = .ok (.return_, 1) := by decide +kernel
theorem dX4_resetCounters_0 : decode cX4_resetCounters 0 = .ok (.aload_n 0, 1) := by decide +kernel
theorem dX4_resetCounters_1 : decode cX4_resetCounters 1 = .ok (.iconst 0, 1) := by decide +kernel
theorem dX4_resetCounters_2 : decode cX4_resetCounters 2 = .ok (.putfield 43, 3) := by decide +kernel
theorem dX4_resetCounters_5 : decode cX4_resetCounters 5 = .ok (.aload_n 0, 1) := by decide +kernel
theorem dX4_resetCounters_6 : decode cX4_resetCounters 6 = .ok (.iconst 0, 1) := by decide +kernel
theorem dX4_resetCounters_7 : decode cX4_resetCounters 7 = .ok (.putfield 46, 3) := by decide +kernel
theorem dX4_resetCounters_10 : decode cX4_resetCounters 10 = .ok (.return_, 1) := by decide +kernel
theorem dX4_placeNew_0 : decode cX4_placeNew 0 = .ok (.aload_n 0, 1) := by decide +kernel
theorem dX4_placeNew_1 : decode cX4_placeNew 1 = .ok (.getfield 49, 3) := by decide +kernel
theorem dX4_placeNew_4 : decode cX4_placeNew 4 = .ok (.iload_n 1, 1) := by decide +kernel
theorem dX4_placeNew_5 : decode cX4_placeNew 5 = .ok (.invokevirtual 53, 3) := by decide +kernel
theorem dX4_placeNew_8 : decode cX4_placeNew 8 = .ok (.istore_n 2, 1) := by decide +kernel
theorem dX4_placeNew_9 : decode cX4_placeNew 9 = .ok (.iload_n 2, 1) := by decide +kernel
theorem dX4_placeNew_10 : decode cX4_placeNew 10 = .ok (.aload_n 0, 1) := by decide +kernel
theorem dX4_placeNew_11 : decode cX4_placeNew 11 = .ok (.invokevirtual 59, 3) := by decide +kernel
theorem dX4_placeNew_14 : decode cX4_placeNew 14 = .ok (.if_icmp .le 8, 3) := by decide +kernel
theorem dX4_placeNew_17 : decode cX4_placeNew 17 = .ok (.aload_n 0, 1) := by decide +kernel
theorem dX4_placeNew_18 : decode cX4_placeNew 18 = .ok (.invokevirtual 63, 3) := by decide +kernel
theorem dX4_placeNew_21 : decode cX4_placeNew 21 = .ok (.pop, 1) := by decide +kernel
theorem dX4_placeNew_22 : decode cX4_placeNew 22 = .ok (.aload_n 0, 1) := by decide +kernel
theorem dX4_placeNew_23 : decode cX4_placeNew 23 = .ok (.getfield 66, 3) := by decide +kernel
theorem dX4_placeNew_26 : decode cX4_placeNew 26 = .ok (.ifCond .ne 16, 3) := by decide +kernel
theorem dX4_placeNew_29 : decode cX4_placeNew 29 = .ok (.iload_n 2, 1) := by decide +kernel
theorem dX4_placeNew_30 : decode cX4_placeNew 30 = .ok (.aload_n 0, 1) := by decide +kernel
theorem dX4_placeNew_31 : decode cX4_placeNew 31 = .ok (.invokevirtual 59, 3) := by decide +kernel
theorem dX4_placeNew_34 : decode cX4_placeNew 34 = .ok (.if_icmp .le 8, 3) := by decide +kernel
theorem dX4_placeNew_37 : decode cX4_placeNew 37 = .ok (.aload_n 0, 1) := by decide +kernel
theorem dX4_placeNew_38 : decode cX4_placeNew 38 = .ok (.invokevirtual 70, 3) := by decide +kernel
theorem dX4_placeNew_41 : decode cX4_placeNew 41 = .ok (.pop, 1) := by decide +kernel
theorem dX4_placeNew_42 : decode cX4_placeNew 42 = .ok (.aload_n 0, 1) := by decide +kernel
theorem dX4_placeNew_43 : decode cX4_placeNew 43 = .ok (.getfield 66, 3) := by decide +kernel
theorem dX4_placeNew_46 : decode cX4_placeNew 46 = .ok (.ifCond .ne 9, 3) := by decide +kernel
theorem dX4_placeNew_49 : decode cX4_placeNew 49 = .ok (.aload_n 0, 1) := by decide +kernel
theorem dX4_placeNew_50 : decode cX4_placeNew 50 = .ok (.iload_n 1, 1) := by decide +kernel
theorem dX4_placeNew_51 : decode cX4_placeNew 51 = .ok (.iconst 0, 1) := by decide +kernel
theorem dX4_placeNew_52 : decode cX4_placeNew 52 = .ok (.invokevirtual 73, 3) := by decide +kernel
theorem dX4_placeNew_55 : decode cX4_placeNew 55 = .ok (.return_, 1) := by decide +kernel
theorem dX4_collectNow_0 : decode cX4_collectNow 0 = .ok (.aload_n 0, 1) := by decide +kernel
theorem dX4_collectNow_1 : decode cX4_collectNow 1 = .ok (.invokevirtual 77, 3) := by decide +kernel
theorem dX4_collectNow_4 : decode cX4_collectNow 4 = .ok (.ifCond .ne 9, 3) := by decide +kernel
theorem dX4_collectNow_7 : decode cX4_collectNow 7 = .ok (.aload_n 0, 1) := by decide +kernel
theorem dX4_collectNow_8 : decode cX4_collectNow 8 = .ok (.invokevirtual 81, 3) := by decide +kernel
theorem dX4_collectNow_11 : decode cX4_collectNow 11 = .ok (.iconst 0, 1) := by decide +kernel
theorem dX4_collectNow_12 : decode cX4_collectNow 12 = .ok (.ireturn, 1) := by decide +kernel
theorem dX4_collectNow_13 : decode cX4_collectNow 13 = .ok (.aload_n 0, 1) := by decide +kernel
theorem dX4_collectNow_14 : decode cX4_collectNow 14 = .ok (.invokevirtual 84, 3) := by decide +kernel
theorem dX4_collectNow_17 : decode cX4_collectNow 17 = .ok (.istore_n 1, 1) := by decide +kernel
theorem dX4_collectNow_18 : decode cX4_collectNow 18 = .ok (.aload_n 0, 1) := by decide +kernel
theorem dX4_collectNow_19 : decode cX4_collectNow 19 = .ok (.invokevirtual 87, 3) := by decide +kernel
theorem dX4_collectNow_22 : decode cX4_collectNow 22 = .ok (.aload_n 0, 1) := by decide +kernel
theorem dX4_collectNow_23 : decode cX4_collectNow 23 = .ok (.invokevirtual 90, 3) := by decide +kernel
theorem dX4_collectNow_26 : decode cX4_collectNow 26 = .ok (.aload_n 0, 1) := by decide +kernel
theorem dX4_collectNow_27 : decode cX4_collectNow 27 = .ok (.invokevirtual 93, 3) := by decide +kernel
theorem dX4_collectNow_30 : decode cX4_collectNow 30 = .ok (.iconst 0, 1) := by decide +kernel
theorem dX4_collectNow_31 : decode cX4_collectNow 31 = .ok (.istore_n 2, 1) := by decide +kernel
theorem dX4_collectNow_32 : decode cX4_collectNow 32 = .ok (.iload_n 2, 1) := by decide +kernel
theorem dX4_collectNow_33 : decode cX4_collectNow 33 = .ok (.aload_n 0, 1) := by decide +kernel
theorem dX4_collectNow_34 : decode cX4_collectNow 34 = .ok (.getfield 23, 3) := by decide +kernel
theorem dX4_collectNow_37 : decode cX4_collectNow 37 = .ok (.getfield 96, 3) := by decide +kernel
theorem dX4_collectNow_40 : decode cX4_collectNow 40 = .ok (.if_icmp .ge 45, 3) := by decide +kernel
theorem dX4_collectNow_43 : decode cX4_collectNow 43 = .ok (.aload_n 0, 1) := by decide +kernel
theorem dX4_collectNow_44 : decode cX4_collectNow 44 = .ok (.aload_n 0, 1) := by decide +kernel
theorem dX4_collectNow_45 : decode cX4_collectNow 45 = .ok (.getfield 23, 3) := by decide +kernel
theorem dX4_collectNow_48 : decode cX4_collectNow 48 = .ok (.iload_n 2, 1) := by decide +kernel
theorem dX4_collectNow_49 : decode cX4_collectNow 49 = .ok (.invokevirtual 99, 3) := by decide +kernel
theorem dX4_collectNow_52 : decode cX4_collectNow 52 = .ok (.invokevirtual 102, 3) := by decide +kernel
theorem dX4_collectNow_55 : decode cX4_collectNow 55 = .ok (.aload_n 0, 1) := by decide +kernel
theorem dX4_collectNow_56 : decode cX4_collectNow 56 = .ok (.dup, 1) := by decide +kernel
theorem dX4_collectNow_57 : decode cX4_collectNow 57 = .ok (.getfield 106, 3) := by decide +kernel
theorem dX4_collectNow_60 : decode cX4_collectNow 60 = .ok (.aload_n 0, 1) := by decide +kernel
theorem dX4_collectNow_61 : decode cX4_collectNow 61 = .ok (.getfield 49, 3) := by decide +kernel
theorem dX4_collectNow_64 : decode cX4_collectNow 64 = .ok (.aload_n 0, 1) := by decide +kernel
theorem dX4_collectNow_65 : decode cX4_collectNow 65 = .ok (.getfield 23, 3) := by decide +kernel
theorem dX4_collectNow_68 : decode cX4_collectNow 68 = .ok (.iload_n 2, 1) := by decide +kernel
theorem dX4_collectNow_69 : decode cX4_collectNow 69 = .ok (.invokevirtual 99, 3) := by decide +kernel
theorem dX4_collectNow_72 : decode cX4_collectNow 72 = .ok (.invokevirtual 53, 3) := by decide +kernel
theorem dX4_collectNow_75 : decode cX4_collectNow 75 = .ok (.iadd, 1) := by decide +kernel
theorem dX4_collectNow_76 : decode cX4_collectNow 76 = .ok (.putfield 106, 3) := by decide +kernel
theorem dX4_collectNow_79 : decode cX4_collectNow 79 = .ok (.iinc 2 1, 3) := by decide +kernel
theorem dX4_collectNow_82 : decode cX4_collectNow 82 = .ok (.goto (-50), 3) := by decide +kernel
theorem dX4_collectNow_85 : decode cX4_collectNow 85 = .ok (.aload_n 0, 1) := by decide +kernel
theorem dX4_collectNow_86 : decode cX4_collectNow 86 = .ok (.dup, 1) := by decide +kernel
theorem dX4_collectNow_87 : decode cX4_collectNow 87 = .ok (.getfield 109, 3) := by decide +kernel
theorem dX4_collectNow_90 : decode cX4_collectNow 90 = .ok (.iconst 1, 1) := by decide +kernel
theorem dX4_collectNow_91 : decode cX4_collectNow 91 = .ok (.iadd, 1) := by decide +kernel
theorem dX4_collectNow_92 : decode cX4_collectNow 92 = .ok (.putfield 109, 3) := by decide +kernel
theorem dX4_collectNow_95 : decode cX4_collectNow 95 = .ok (.iload_n 1, 1) := by decide +kernel
theorem dX4_collectNow_96 : decode cX4_collectNow 96 = .ok (.aload_n 0, 1) := by decide +kernel
theorem dX4_collectNow_97 : decode cX4_collectNow 97 = .ok (.getfield 23, 3) := by decide +kernel
theorem dX4_collectNow_100 : decode cX4_collectNow 100 = .ok (.getfield 96, 3) := by decide +kernel
theorem dX4_collectNow_103 : decode cX4_collectNow 103 = .ok (.isub, 1) := by decide +kernel
theorem dX4_collectNow_104 : decode cX4_collectNow 104 = .ok (.ireturn, 1) := by decide +kernel
theorem dX4_cleanUpYoung_0 : decode cX4_cleanUpYoung 0 = .ok (.aload_n 0, 1) := by decide +kernel
theorem dX4_cleanUpYoung_1 : decode cX4_cleanUpYoung 1 = .ok (.getfield 66, 3) := by decide +kernel
theorem dX4_cleanUpYoung_4 : decode cX4_cleanUpYoung 4 = .ok (.ifCond .eq 5, 3) := by decide +kernel
theorem dX4_cleanUpYoung_7 : decode cX4_cleanUpYoung 7 = .ok (.iconst 0, 1) := by decide +kernel
theorem dX4_cleanUpYoung_8 : decode cX4_cleanUpYoung 8 = .ok (.ireturn, 1) := by decide +kernel
theorem dX4_cleanUpYoung_9 : decode cX4_cleanUpYoung 9 = .ok (.aload_n 0, 1) := by decide +kernel
theorem dX4_cleanUpYoung_10 : decode cX4_cleanUpYoung 10 = .ok (.invokevirtual 112, 3) := by decide +kernel
theorem dX4_cleanUpYoung_13 : decode cX4_cleanUpYoung 13 = .ok (.aload_n 0, 1) := by decide +kernel
theorem dX4_cleanUpYoung_14 : decode cX4_cleanUpYoung 14 = .ok (.getfield 40, 3) := by decide +kernel
theorem dX4_cleanUpYoung_17 : decode cX4_cleanUpYoung 17 = .ok (.aload_n 0, 1) := by decide +kernel
theorem dX4_cleanUpYoung_18 : decode cX4_cleanUpYoung 18 = .ok (.getfield 30, 3) := by decide +kernel
theorem dX4_cleanUpYoung_21 : decode cX4_cleanUpYoung 21 = .ok (.isub, 1) := by decide +kernel
theorem dX4_cleanUpYoung_22 : decode cX4_cleanUpYoung 22 = .ok (.if_icmp .le 8, 3) := by decide +kernel
theorem dX4_cleanUpYoung_25 : decode cX4_cleanUpYoung 25 = .ok (.aload_n 0, 1) := by decide +kernel
theorem dX4_cleanUpYoung_26 : decode cX4_cleanUpYoung 26 = .ok (.invokevirtual 70, 3) := by decide +kernel
theorem dX4_cleanUpYoung_29 : decode cX4_cleanUpYoung 29 = .ok (.ireturn, 1) := by decide +kernel
theorem dX4_cleanUpYoung_30 : decode cX4_cleanUpYoung 30 = .ok (.aload_n 0, 1) := by decide +kernel
theorem dX4_cleanUpYoung_31 : decode cX4_cleanUpYoung 31 = .ok (.getfield 14, 3) := by decide +kernel
theorem dX4_cleanUpYoung_34 : decode cX4_cleanUpYoung 34 = .ok (.getfield 96, 3) := by decide +kernel
theorem dX4_cleanUpYoung_37 : decode cX4_cleanUpYoung 37 = .ok (.istore_n 1, 1) := by decide +kernel
theorem dX4_cleanUpYoung_38 : decode cX4_cleanUpYoung 38 = .ok (.aload_n 0, 1) := by decide +kernel
theorem dX4_cleanUpYoung_39 : decode cX4_cleanUpYoung 39 = .ok (.invokevirtual 115, 3) := by decide +kernel
theorem dX4_cleanUpYoung_42 : decode cX4_cleanUpYoung 42 = .ok (.iconst 0, 1) := by decide +kernel
theorem dX4_cleanUpYoung_43 : decode cX4_cleanUpYoung 43 = .ok (.istore_n 2, 1) := by decide +kernel
theorem dX4_cleanUpYoung_44 : decode cX4_cleanUpYoung 44 = .ok (.iload_n 2, 1) := by decide +kernel
theorem dX4_cleanUpYoung_45 : decode cX4_cleanUpYoung 45 = .ok (.aload_n 0, 1) := by decide +kernel
theorem dX4_cleanUpYoung_46 : decode cX4_cleanUpYoung 46 = .ok (.getfield 14, 3) := by decide +kernel
theorem dX4_cleanUpYoung_49 : decode cX4_cleanUpYoung 49 = .ok (.getfield 96, 3) := by decide +kernel
theorem dX4_cleanUpYoung_52 : decode cX4_cleanUpYoung 52 = .ok (.if_icmp .ge 21, 3) := by decide +kernel
theorem dX4_cleanUpYoung_55 : decode cX4_cleanUpYoung 55 = .ok (.aload_n 0, 1) := by decide +kernel
theorem dX4_cleanUpYoung_56 : decode cX4_cleanUpYoung 56 = .ok (.aload_n 0, 1) := by decide +kernel
theorem dX4_cleanUpYoung_57 : decode cX4_cleanUpYoung 57 = .ok (.getfield 14, 3) := by decide +kernel
theorem dX4_cleanUpYoung_60 : decode cX4_cleanUpYoung 60 = .ok (.iload_n 2, 1) := by decide +kernel
theorem dX4_cleanUpYoung_61 : decode cX4_cleanUpYoung 61 = .ok (.invokevirtual 99, 3) := by decide +kernel
theorem dX4_cleanUpYoung_64 : decode cX4_cleanUpYoung 64 = .ok (.invokevirtual 118, 3) := by decide +kernel
theorem dX4_cleanUpYoung_67 : decode cX4_cleanUpYoung 67 = .ok (.iinc 2 1, 3) := by decide +kernel
theorem dX4_cleanUpYoung_70 : decode cX4_cleanUpYoung 70 = .ok (.goto (-26), 3) := by decide +kernel
theorem dX4_cleanUpYoung_73 : decode cX4_cleanUpYoung 73 = .ok (.aload_n 0, 1) := by decide +kernel
theorem dX4_cleanUpYoung_74 : decode cX4_cleanUpYoung 74 = .ok (.getfield 14, 3) := by decide +kernel
theorem dX4_cleanUpYoung_77 : decode cX4_cleanUpYoung 77 = .ok (.invokevirtual 34, 3) := by decide +kernel
theorem dX4_cleanUpYoung_80 : decode cX4_cleanUpYoung 80 = .ok (.aload_n 0, 1) := by decide +kernel
theorem dX4_cleanUpYoung_81 : decode cX4_cleanUpYoung 81 = .ok (.iconst 0, 1) := by decide +kernel
theorem dX4_cleanUpYoung_82 : decode cX4_cleanUpYoung 82 = .ok (.putfield 37, 3) := by decide +kernel
theorem dX4_cleanUpYoung_85 : decode cX4_cleanUpYoung 85 = .ok (.iconst 0, 1) := by decide +kernel
theorem dX4_cleanUpYoung_86 : decode cX4_cleanUpYoung 86 = .ok (.istore_n 2, 1) := by decide +kernel
theorem dX4_cleanUpYoung_87 : decode cX4_cleanUpYoung 87 = .ok (.iload_n 2, 1) := by decide +kernel
theorem dX4_cleanUpYoung_88 : decode cX4_cleanUpYoung 88 = .ok (.aload_n 0, 1) := by decide +kernel
theorem dX4_cleanUpYoung_89 : decode cX4_cleanUpYoung 89 = .ok (.getfield 23, 3) := by decide +kernel
theorem dX4_cleanUpYoung_92 : decode cX4_cleanUpYoung 92 = .ok (.getfield 96, 3) := by decide +kernel
theorem dX4_cleanUpYoung_95 : decode cX4_cleanUpYoung 95 = .ok (.if_icmp .ge 21, 3) := by decide +kernel
theorem dX4_cleanUpYoung_98 : decode cX4_cleanUpYoung 98 = .ok (.aload_n 0, 1) := by decide +kernel
theorem dX4_cleanUpYoung_99 : decode cX4_cleanUpYoung 99 = .ok (.aload_n 0, 1) := by decide +kernel
theorem dX4_cleanUpYoung_100 : decode cX4_cleanUpYoung 100 = .ok (.getfield 23, 3) := by decide +kernel
theorem dX4_cleanUpYoung_103 : decode cX4_cleanUpYoung 103 = .ok (.iload_n 2, 1) := by decide +kernel
theorem dX4_cleanUpYoung_104 : decode cX4_cleanUpYoung 104 = .ok (.invokevirtual 99, 3) := by decide +kernel
theorem dX4_cleanUpYoung_107 : decode cX4_cleanUpYoung 107 = .ok (.invokevirtual 121, 3) := by decide +kernel
theorem dX4_cleanUpYoung_110 : decode cX4_cleanUpYoung 110 = .ok (.iinc 2 1, 3) := by decide +kernel
theorem dX4_cleanUpYoung_113 : decode cX4_cleanUpYoung 113 = .ok (.goto (-26), 3) := by decide +kernel
theorem dX4_cleanUpYoung_116 : decode cX4_cleanUpYoung 116 = .ok (.aload_n 0, 1) := by decide +kernel
theorem dX4_cleanUpYoung_117 : decode cX4_cleanUpYoung 117 = .ok (.dup, 1) := by decide +kernel
theorem dX4_cleanUpYoung_118 : decode cX4_cleanUpYoung 118 = .ok (.getfield 43, 3) := by decide +kernel
theorem dX4_cleanUpYoung_121 : decode cX4_cleanUpYoung 121 = .ok (.iconst 1, 1) := by decide +kernel
theorem dX4_cleanUpYoung_122 : decode cX4_cleanUpYoung 122 = .ok (.iadd, 1) := by decide +kernel
theorem dX4_cleanUpYoung_123 : decode cX4_cleanUpYoung 123 = .ok (.putfield 43, 3) := by decide +kernel
theorem dX4_cleanUpYoung_126 : decode cX4_cleanUpYoung 126 = .ok (.iload_n 1, 1) := by decide +kernel
theorem dX4_cleanUpYoung_127 : decode cX4_cleanUpYoung 127 = .ok (.aload_n 0, 1) := by decide +kernel
theorem dX4_cleanUpYoung_128 : decode cX4_cleanUpYoung 128 = .ok (.getfield 23, 3) := by decide +kernel
theorem dX4_cleanUpYoung_131 : decode cX4_cleanUpYoung 131 = .ok (.getfield 96, 3) := by decide +kernel
theorem dX4_cleanUpYoung_134 : decode cX4_cleanUpYoung 134 = .ok (.isub, 1) := by decide +kernel
theorem dX4_cleanUpYoung_135 : decode cX4_cleanUpYoung 135 = .ok (.ireturn, 1) := by decide +kernel
theorem dX4_countToGo_0 : decode cX4_countToGo 0 = .ok (.aload_n 0, 1) := by decide +kernel
theorem dX4_countToGo_1 : decode cX4_countToGo 1 = .ok (.invokevirtual 77, 3) := by decide +kernel
theorem dX4_countToGo_4 : decode cX4_countToGo 4 = .ok (.ifCond .eq 10, 3) := by decide +kernel
theorem dX4_countToGo_7 : decode cX4_countToGo 7 = .ok (.aload_n 0, 1) := by decide +kernel
theorem dX4_countToGo_8 : decode cX4_countToGo 8 = .ok (.invokevirtual 124, 3) := by decide +kernel
theorem dX4_countToGo_11 : decode cX4_countToGo 11 = .ok (.goto 4, 3) := by decide +kernel
theorem dX4_countToGo_14 : decode cX4_countToGo 14 = .ok (.iconst 0, 1) := by decide +kernel
theorem dX4_countToGo_15 : decode cX4_countToGo 15 = .ok (.ireturn, 1) := by decide +kernel
theorem dX4_workToDo_0 : decode cX4_workToDo 0 = .ok (.aload_n 0, 1) := by decide +kernel
theorem dX4_workToDo_1 : decode cX4_workToDo 1 = .ok (.invokevirtual 77, 3) := by decide +kernel
theorem dX4_workToDo_4 : decode cX4_workToDo 4 = .ok (.ifCond .eq 10, 3) := by decide +kernel
theorem dX4_workToDo_7 : decode cX4_workToDo 7 = .ok (.aload_n 0, 1) := by decide +kernel
theorem dX4_workToDo_8 : decode cX4_workToDo 8 = .ok (.invokevirtual 127, 3) := by decide +kernel
theorem dX4_workToDo_11 : decode cX4_workToDo 11 = .ok (.goto 4, 3) := by decide +kernel
theorem dX4_workToDo_14 : decode cX4_workToDo 14 = .ok (.iconst 0, 1) := by decide +kernel
theorem dX4_workToDo_15 : decode cX4_workToDo 15 = .ok (.ireturn, 1) := by decide +kernel
theorem dX4_freeTogether_0 : decode cX4_freeTogether 0 = .ok (.aload_n 0, 1) := by decide +kernel
theorem dX4_freeTogether_1 : decode cX4_freeTogether 1 = .ok (.getfield 40, 3) := by decide +kernel
theorem dX4_freeTogether_4 : decode cX4_freeTogether 4 = .ok (.iconst 4, 1) := by decide +kernel
theorem dX4_freeTogether_5 : decode cX4_freeTogether 5 = .ok (.idiv, 1) := by decide +kernel
theorem dX4_freeTogether_6 : decode cX4_freeTogether 6 = .ok (.aload_n 0, 1) := by decide +kernel
theorem dX4_freeTogether_7 : decode cX4_freeTogether 7 = .ok (.getfield 37, 3) := by decide +kernel
theorem dX4_freeTogether_10 : decode cX4_freeTogether 10 = .ok (.isub, 1) := by decide +kernel
theorem dX4_freeTogether_11 : decode cX4_freeTogether 11 = .ok (.ireturn, 1) := by decide +kernel
theorem dX4_ageOf_0 : decode cX4_ageOf 0 = .ok (.aload_n 0, 1) := by decide +kernel
theorem dX4_ageOf_1 : decode cX4_ageOf 1 = .ok (.iload_n 1, 1) := by decide +kernel
theorem dX4_ageOf_2 : decode cX4_ageOf 2 = .ok (.invokevirtual 130, 3) := by decide +kernel
theorem dX4_ageOf_5 : decode cX4_ageOf 5 = .ok (.ifCond .ne 5, 3) := by decide +kernel
theorem dX4_ageOf_8 : decode cX4_ageOf 8 = .ok (.iconst (-1), 1) := by decide +kernel
theorem dX4_ageOf_9 : decode cX4_ageOf 9 = .ok (.ireturn, 1) := by decide +kernel
theorem dX4_ageOf_10 : decode cX4_ageOf 10 = .ok (.aload_n 0, 1) := by decide +kernel
theorem dX4_ageOf_11 : decode cX4_ageOf 11 = .ok (.getfield 14, 3) := by decide +kernel
theorem dX4_ageOf_14 : decode cX4_ageOf 14 = .ok (.iload_n 1, 1) := by decide +kernel
theorem dX4_ageOf_15 : decode cX4_ageOf 15 = .ok (.invokevirtual 134, 3) := by decide +kernel
theorem dX4_ageOf_18 : decode cX4_ageOf 18 = .ok (.ifCond .ne 5, 3) := by decide +kernel
theorem dX4_ageOf_21 : decode cX4_ageOf 21 = .ok (.iconst 2, 1) := by decide +kernel
theorem dX4_ageOf_22 : decode cX4_ageOf 22 = .ok (.ireturn, 1) := by decide +kernel
theorem dX4_ageOf_23 : decode cX4_ageOf 23 = .ok (.aload_n 0, 1) := by decide +kernel
theorem dX4_ageOf_24 : decode cX4_ageOf 24 = .ok (.iload_n 1, 1) := by decide +kernel
theorem dX4_ageOf_25 : decode cX4_ageOf 25 = .ok (.invokevirtual 137, 3) := by decide +kernel
theorem dX4_ageOf_28 : decode cX4_ageOf 28 = .ok (.ifCond .eq 7, 3) := by decide +kernel
theorem dX4_ageOf_31 : decode cX4_ageOf 31 = .ok (.iconst 1, 1) := by decide +kernel
theorem dX4_ageOf_32 : decode cX4_ageOf 32 = .ok (.goto 4, 3) := by decide +kernel
theorem dX4_ageOf_35 : decode cX4_ageOf 35 = .ok (.iconst 0, 1) := by decide +kernel
theorem dX4_ageOf_36 : decode cX4_ageOf 36 = .ok (.ireturn, 1) := by decide +kernel
theorem dX4_isRemembered_0 : decode cX4_isRemembered 0 = .ok (.aload_n 0, 1) := by decide +kernel
theorem dX4_isRemembered_1 : decode cX4_isRemembered 1 = .ok (.getfield 20, 3) := by decide +kernel
theorem dX4_isRemembered_4 : decode cX4_isRemembered 4 = .ok (.iload_n 1, 1) := by decide +kernel
theorem dX4_isRemembered_5 : decode cX4_isRemembered 5 = .ok (.invokevirtual 134, 3) := by decide +kernel
theorem dX4_isRemembered_8 : decode cX4_isRemembered 8 = .ok (.ifCond .ne 5, 3) := by decide +kernel
theorem dX4_isRemembered_11 : decode cX4_isRemembered 11 = .ok (.iconst 0, 1) := by decide +kernel
theorem dX4_isRemembered_12 : decode cX4_isRemembered 12 = .ok (.ireturn, 1) := by decide +kernel
theorem dX4_isRemembered_13 : decode cX4_isRemembered 13 = .ok (.iconst 0, 1) := by decide +kernel
theorem dX4_isRemembered_14 : decode cX4_isRemembered 14 = .ok (.istore_n 2, 1) := by decide +kernel
theorem dX4_isRemembered_15 : decode cX4_isRemembered 15 = .ok (.iload_n 2, 1) := by decide +kernel
theorem dX4_isRemembered_16 : decode cX4_isRemembered 16 = .ok (.aload_n 0, 1) := by decide +kernel
theorem dX4_isRemembered_17 : decode cX4_isRemembered 17 = .ok (.getfield 49, 3) := by decide +kernel
theorem dX4_isRemembered_20 : decode cX4_isRemembered 20 = .ok (.iload_n 1, 1) := by decide +kernel
theorem dX4_isRemembered_21 : decode cX4_isRemembered 21 = .ok (.invokevirtual 140, 3) := by decide +kernel
theorem dX4_isRemembered_24 : decode cX4_isRemembered 24 = .ok (.if_icmp .ge 30, 3) := by decide +kernel
theorem dX4_isRemembered_27 : decode cX4_isRemembered 27 = .ok (.aload_n 0, 1) := by decide +kernel
theorem dX4_isRemembered_28 : decode cX4_isRemembered 28 = .ok (.getfield 14, 3) := by decide +kernel
theorem dX4_isRemembered_31 : decode cX4_isRemembered 31 = .ok (.aload_n 0, 1) := by decide +kernel
theorem dX4_isRemembered_32 : decode cX4_isRemembered 32 = .ok (.getfield 49, 3) := by decide +kernel
theorem dX4_isRemembered_35 : decode cX4_isRemembered 35 = .ok (.iload_n 1, 1) := by decide +kernel
theorem dX4_isRemembered_36 : decode cX4_isRemembered 36 = .ok (.iload_n 2, 1) := by decide +kernel
theorem dX4_isRemembered_37 : decode cX4_isRemembered 37 = .ok (.invokevirtual 143, 3) := by decide +kernel
theorem dX4_isRemembered_40 : decode cX4_isRemembered 40 = .ok (.invokevirtual 134, 3) := by decide +kernel
theorem dX4_isRemembered_43 : decode cX4_isRemembered 43 = .ok (.ifCond .eq 5, 3) := by decide +kernel
theorem dX4_isRemembered_46 : decode cX4_isRemembered 46 = .ok (.iconst 1, 1) := by decide +kernel
theorem dX4_isRemembered_47 : decode cX4_isRemembered 47 = .ok (.ireturn, 1) := by decide +kernel
theorem dX4_isRemembered_48 : decode cX4_isRemembered 48 = .ok (.iinc 2 1, 3) := by decide +kernel
theorem dX4_isRemembered_51 : decode cX4_isRemembered 51 = .ok (.goto (-36), 3) := by decide +kernel
theorem dX4_isRemembered_54 : decode cX4_isRemembered 54 = .ok (.iconst 0, 1) := by decide +kernel
theorem dX4_isRemembered_55 : decode cX4_isRemembered 55 = .ok (.ireturn, 1) := by decide +kernel
theorem dX4_greatFits_0 : decode cX4_greatFits 0 = .ok (.aload_n 0, 1) := by decide +kernel
theorem dX4_greatFits_1 : decode cX4_greatFits 1 = .ok (.invokevirtual 127, 3) := by decide +kernel
theorem dX4_greatFits_4 : decode cX4_greatFits 4 = .ok (.aload_n 0, 1) := by decide +kernel
theorem dX4_greatFits_5 : decode cX4_greatFits 5 = .ok (.getfield 40, 3) := by decide +kernel
theorem dX4_greatFits_8 : decode cX4_greatFits 8 = .ok (.aload_n 0, 1) := by decide +kernel
theorem dX4_greatFits_9 : decode cX4_greatFits 9 = .ok (.getfield 40, 3) := by decide +kernel
theorem dX4_greatFits_12 : decode cX4_greatFits 12 = .ok (.iconst 4, 1) := by decide +kernel
theorem dX4_greatFits_13 : decode cX4_greatFits 13 = .ok (.idiv, 1) := by decide +kernel
theorem dX4_greatFits_14 : decode cX4_greatFits 14 = .ok (.isub, 1) := by decide +kernel
theorem dX4_greatFits_15 : decode cX4_greatFits 15 = .ok (.if_icmp .gt 7, 3) := by decide +kernel
theorem dX4_greatFits_18 : decode cX4_greatFits 18 = .ok (.iconst 1, 1) := by decide +kernel
theorem dX4_greatFits_19 : decode cX4_greatFits 19 = .ok (.goto 4, 3) := by decide +kernel
theorem dX4_greatFits_22 : decode cX4_greatFits 22 = .ok (.iconst 0, 1) := by decide +kernel
theorem dX4_greatFits_23 : decode cX4_greatFits 23 = .ok (.ireturn, 1) := by decide +kernel
theorem dX4_isGrown_0 : decode cX4_isGrown 0 = .ok (.aload_n 0, 1) := by decide +kernel
theorem dX4_isGrown_1 : decode cX4_isGrown 1 = .ok (.getfield 49, 3) := by decide +kernel
theorem dX4_isGrown_4 : decode cX4_isGrown 4 = .ok (.iload_n 1, 1) := by decide +kernel
theorem dX4_isGrown_5 : decode cX4_isGrown 5 = .ok (.invokevirtual 147, 3) := by decide +kernel
theorem dX4_isGrown_8 : decode cX4_isGrown 8 = .ok (.ifCond .eq 16, 3) := by decide +kernel
theorem dX4_isGrown_11 : decode cX4_isGrown 11 = .ok (.aload_n 0, 1) := by decide +kernel
theorem dX4_isGrown_12 : decode cX4_isGrown 12 = .ok (.getfield 26, 3) := by decide +kernel
theorem dX4_isGrown_15 : decode cX4_isGrown 15 = .ok (.iload_n 1, 1) := by decide +kernel
theorem dX4_isGrown_16 : decode cX4_isGrown 16 = .ok (.baload, 1) := by decide +kernel
theorem dX4_isGrown_17 : decode cX4_isGrown 17 = .ok (.ifCond .eq 7, 3) := by decide +kernel
theorem dX4_isGrown_20 : decode cX4_isGrown 20 = .ok (.iconst 1, 1) := by decide +kernel
theorem dX4_isGrown_21 : decode cX4_isGrown 21 = .ok (.goto 4, 3) := by decide +kernel
theorem dX4_isGrown_24 : decode cX4_isGrown 24 = .ok (.iconst 0, 1) := by decide +kernel
theorem dX4_isGrown_25 : decode cX4_isGrown 25 = .ok (.ireturn, 1) := by decide +kernel
theorem dX4_wordsGrown_0 : decode cX4_wordsGrown 0 = .ok (.iconst 0, 1) := by decide +kernel
theorem dX4_wordsGrown_1 : decode cX4_wordsGrown 1 = .ok (.istore_n 1, 1) := by decide +kernel
theorem dX4_wordsGrown_2 : decode cX4_wordsGrown 2 = .ok (.iconst 0, 1) := by decide +kernel
theorem dX4_wordsGrown_3 : decode cX4_wordsGrown 3 = .ok (.istore_n 2, 1) := by decide +kernel
theorem dX4_wordsGrown_4 : decode cX4_wordsGrown 4 = .ok (.iload_n 2, 1) := by decide +kernel
theorem dX4_wordsGrown_5 : decode cX4_wordsGrown 5 = .ok (.aload_n 0, 1) := by decide +kernel
theorem dX4_wordsGrown_6 : decode cX4_wordsGrown 6 = .ok (.getfield 14, 3) := by decide +kernel
theorem dX4_wordsGrown_9 : decode cX4_wordsGrown 9 = .ok (.getfield 96, 3) := by decide +kernel
theorem dX4_wordsGrown_12 : decode cX4_wordsGrown 12 = .ok (.if_icmp .ge 46, 3) := by decide +kernel
theorem dX4_wordsGrown_15 : decode cX4_wordsGrown 15 = .ok (.iload_n 1, 1) := by decide +kernel
theorem dX4_wordsGrown_16 : decode cX4_wordsGrown 16 = .ok (.aload_n 0, 1) := by decide +kernel
theorem dX4_wordsGrown_17 : decode cX4_wordsGrown 17 = .ok (.aload_n 0, 1) := by decide +kernel
theorem dX4_wordsGrown_18 : decode cX4_wordsGrown 18 = .ok (.getfield 14, 3) := by decide +kernel
theorem dX4_wordsGrown_21 : decode cX4_wordsGrown 21 = .ok (.iload_n 2, 1) := by decide +kernel
theorem dX4_wordsGrown_22 : decode cX4_wordsGrown 22 = .ok (.invokevirtual 99, 3) := by decide +kernel
theorem dX4_wordsGrown_25 : decode cX4_wordsGrown 25 = .ok (.invokevirtual 137, 3) := by decide +kernel
theorem dX4_wordsGrown_28 : decode cX4_wordsGrown 28 = .ok (.ifCond .eq 21, 3) := by decide +kernel
theorem dX4_wordsGrown_31 : decode cX4_wordsGrown 31 = .ok (.aload_n 0, 1) := by decide +kernel
theorem dX4_wordsGrown_32 : decode cX4_wordsGrown 32 = .ok (.getfield 49, 3) := by decide +kernel
theorem dX4_wordsGrown_35 : decode cX4_wordsGrown 35 = .ok (.aload_n 0, 1) := by decide +kernel
theorem dX4_wordsGrown_36 : decode cX4_wordsGrown 36 = .ok (.getfield 14, 3) := by decide +kernel
theorem dX4_wordsGrown_39 : decode cX4_wordsGrown 39 = .ok (.iload_n 2, 1) := by decide +kernel
theorem dX4_wordsGrown_40 : decode cX4_wordsGrown 40 = .ok (.invokevirtual 99, 3) := by decide +kernel
theorem dX4_wordsGrown_43 : decode cX4_wordsGrown 43 = .ok (.invokevirtual 53, 3) := by decide +kernel
theorem dX4_wordsGrown_46 : decode cX4_wordsGrown 46 = .ok (.goto 4, 3) := by decide +kernel
theorem dX4_wordsGrown_49 : decode cX4_wordsGrown 49 = .ok (.iconst 0, 1) := by decide +kernel
theorem dX4_wordsGrown_50 : decode cX4_wordsGrown 50 = .ok (.iadd, 1) := by decide +kernel
theorem dX4_wordsGrown_51 : decode cX4_wordsGrown 51 = .ok (.istore_n 1, 1) := by decide +kernel
theorem dX4_wordsGrown_52 : decode cX4_wordsGrown 52 = .ok (.iinc 2 1, 3) := by decide +kernel
theorem dX4_wordsGrown_55 : decode cX4_wordsGrown 55 = .ok (.goto (-51), 3) := by decide +kernel
theorem dX4_wordsGrown_58 : decode cX4_wordsGrown 58 = .ok (.iload_n 1, 1) := by decide +kernel
theorem dX4_wordsGrown_59 : decode cX4_wordsGrown 59 = .ok (.ireturn, 1) := by decide +kernel
theorem dX4_findReached_0 : decode cX4_findReached 0 = .ok (.aload_n 0, 1) := by decide +kernel
theorem dX4_findReached_1 : decode cX4_findReached 1 = .ok (.getfield 23, 3) := by decide +kernel
theorem dX4_findReached_4 : decode cX4_findReached 4 = .ok (.invokevirtual 34, 3) := by decide +kernel
theorem dX4_findReached_7 : decode cX4_findReached 7 = .ok (.aload_n 0, 1) := by decide +kernel
theorem dX4_findReached_8 : decode cX4_findReached 8 = .ok (.aload_n 0, 1) := by decide +kernel
theorem dX4_findReached_9 : decode cX4_findReached 9 = .ok (.getfield 20, 3) := by decide +kernel
theorem dX4_findReached_12 : decode cX4_findReached 12 = .ok (.invokevirtual 150, 3) := by decide +kernel
theorem dX4_findReached_15 : decode cX4_findReached 15 = .ok (.aload_n 0, 1) := by decide +kernel
theorem dX4_findReached_16 : decode cX4_findReached 16 = .ok (.aload_n 0, 1) := by decide +kernel
theorem dX4_findReached_17 : decode cX4_findReached 17 = .ok (.getfield 14, 3) := by decide +kernel
theorem dX4_findReached_20 : decode cX4_findReached 20 = .ok (.invokevirtual 150, 3) := by decide +kernel
theorem dX4_findReached_23 : decode cX4_findReached 23 = .ok (.return_, 1) := by decide +kernel
theorem dX4_addReached_0 : decode cX4_addReached 0 = .ok (.iconst 0, 1) := by decide +kernel
theorem dX4_addReached_1 : decode cX4_addReached 1 = .ok (.istore_n 2, 1) := by decide +kernel
theorem dX4_addReached_2 : decode cX4_addReached 2 = .ok (.iload_n 2, 1) := by decide +kernel
theorem dX4_addReached_3 : decode cX4_addReached 3 = .ok (.aload_n 1, 1) := by decide +kernel
theorem dX4_addReached_4 : decode cX4_addReached 4 = .ok (.getfield 96, 3) := by decide +kernel
theorem dX4_addReached_7 : decode cX4_addReached 7 = .ok (.if_icmp .ge 36, 3) := by decide +kernel
theorem dX4_addReached_10 : decode cX4_addReached 10 = .ok (.aload_n 0, 1) := by decide +kernel
theorem dX4_addReached_11 : decode cX4_addReached 11 = .ok (.getfield 49, 3) := by decide +kernel
theorem dX4_addReached_14 : decode cX4_addReached 14 = .ok (.aload_n 1, 1) := by decide +kernel
theorem dX4_addReached_15 : decode cX4_addReached 15 = .ok (.iload_n 2, 1) := by decide +kernel
theorem dX4_addReached_16 : decode cX4_addReached 16 = .ok (.invokevirtual 99, 3) := by decide +kernel
theorem dX4_addReached_19 : decode cX4_addReached 19 = .ok (.invokevirtual 154, 3) := by decide +kernel
theorem dX4_addReached_22 : decode cX4_addReached 22 = .ok (.ifCond .eq 15, 3) := by decide +kernel
theorem dX4_addReached_25 : decode cX4_addReached 25 = .ok (.aload_n 0, 1) := by decide +kernel
theorem dX4_addReached_26 : decode cX4_addReached 26 = .ok (.getfield 23, 3) := by decide +kernel
theorem dX4_addReached_29 : decode cX4_addReached 29 = .ok (.aload_n 1, 1) := by decide +kernel
theorem dX4_addReached_30 : decode cX4_addReached 30 = .ok (.iload_n 2, 1) := by decide +kernel
theorem dX4_addReached_31 : decode cX4_addReached 31 = .ok (.invokevirtual 99, 3) := by decide +kernel
theorem dX4_addReached_34 : decode cX4_addReached 34 = .ok (.invokevirtual 157, 3) := by decide +kernel
theorem dX4_addReached_37 : decode cX4_addReached 37 = .ok (.iinc 2 1, 3) := by decide +kernel
theorem dX4_addReached_40 : decode cX4_addReached 40 = .ok (.goto (-38), 3) := by decide +kernel
theorem dX4_addReached_43 : decode cX4_addReached 43 = .ok (.return_, 1) := by decide +kernel
theorem dX4_findYoung_0 : decode cX4_findYoung 0 = .ok (.aload_n 0, 1) := by decide +kernel
theorem dX4_findYoung_1 : decode cX4_findYoung 1 = .ok (.getfield 23, 3) := by decide +kernel
theorem dX4_findYoung_4 : decode cX4_findYoung 4 = .ok (.invokevirtual 34, 3) := by decide +kernel
theorem dX4_findYoung_7 : decode cX4_findYoung 7 = .ok (.iconst 0, 1) := by decide +kernel
theorem dX4_findYoung_8 : decode cX4_findYoung 8 = .ok (.istore_n 1, 1) := by decide +kernel
theorem dX4_findYoung_9 : decode cX4_findYoung 9 = .ok (.iload_n 1, 1) := by decide +kernel
theorem dX4_findYoung_10 : decode cX4_findYoung 10 = .ok (.bipush 6, 2) := by decide +kernel
theorem dX4_findYoung_12 : decode cX4_findYoung 12 = .ok (.if_icmp .ge 21, 3) := by decide +kernel
theorem dX4_findYoung_15 : decode cX4_findYoung 15 = .ok (.aload_n 0, 1) := by decide +kernel
theorem dX4_findYoung_16 : decode cX4_findYoung 16 = .ok (.aload_n 0, 1) := by decide +kernel
theorem dX4_findYoung_17 : decode cX4_findYoung 17 = .ok (.getfield 49, 3) := by decide +kernel
theorem dX4_findYoung_20 : decode cX4_findYoung 20 = .ok (.iload_n 1, 1) := by decide +kernel
theorem dX4_findYoung_21 : decode cX4_findYoung 21 = .ok (.invokevirtual 160, 3) := by decide +kernel
theorem dX4_findYoung_24 : decode cX4_findYoung 24 = .ok (.invokevirtual 163, 3) := by decide +kernel
theorem dX4_findYoung_27 : decode cX4_findYoung 27 = .ok (.iinc 1 1, 3) := by decide +kernel
theorem dX4_findYoung_30 : decode cX4_findYoung 30 = .ok (.goto (-21), 3) := by decide +kernel
theorem dX4_findYoung_33 : decode cX4_findYoung 33 = .ok (.iconst 0, 1) := by decide +kernel
theorem dX4_findYoung_34 : decode cX4_findYoung 34 = .ok (.istore_n 1, 1) := by decide +kernel
theorem dX4_findYoung_35 : decode cX4_findYoung 35 = .ok (.iload_n 1, 1) := by decide +kernel
theorem dX4_findYoung_36 : decode cX4_findYoung 36 = .ok (.aload_n 0, 1) := by decide +kernel
theorem dX4_findYoung_37 : decode cX4_findYoung 37 = .ok (.getfield 49, 3) := by decide +kernel
theorem dX4_findYoung_40 : decode cX4_findYoung 40 = .ok (.getfield 166, 3) := by decide +kernel
theorem dX4_findYoung_43 : decode cX4_findYoung 43 = .ok (.if_icmp .ge 25, 3) := by decide +kernel
theorem dX4_findYoung_46 : decode cX4_findYoung 46 = .ok (.aload_n 0, 1) := by decide +kernel
theorem dX4_findYoung_47 : decode cX4_findYoung 47 = .ok (.getfield 20, 3) := by decide +kernel
theorem dX4_findYoung_50 : decode cX4_findYoung 50 = .ok (.iload_n 1, 1) := by decide +kernel
theorem dX4_findYoung_51 : decode cX4_findYoung 51 = .ok (.invokevirtual 134, 3) := by decide +kernel
theorem dX4_findYoung_54 : decode cX4_findYoung 54 = .ok (.ifCond .eq 8, 3) := by decide +kernel
theorem dX4_findYoung_57 : decode cX4_findYoung 57 = .ok (.aload_n 0, 1) := by decide +kernel
theorem dX4_findYoung_58 : decode cX4_findYoung 58 = .ok (.iload_n 1, 1) := by decide +kernel
theorem dX4_findYoung_59 : decode cX4_findYoung 59 = .ok (.invokevirtual 169, 3) := by decide +kernel
theorem dX4_findYoung_62 : decode cX4_findYoung 62 = .ok (.iinc 1 1, 3) := by decide +kernel
theorem dX4_findYoung_65 : decode cX4_findYoung 65 = .ok (.goto (-30), 3) := by decide +kernel
theorem dX4_findYoung_68 : decode cX4_findYoung 68 = .ok (.iconst 0, 1) := by decide +kernel
theorem dX4_findYoung_69 : decode cX4_findYoung 69 = .ok (.istore_n 1, 1) := by decide +kernel
theorem dX4_findYoung_70 : decode cX4_findYoung 70 = .ok (.iload_n 1, 1) := by decide +kernel
theorem dX4_findYoung_71 : decode cX4_findYoung 71 = .ok (.aload_n 0, 1) := by decide +kernel
theorem dX4_findYoung_72 : decode cX4_findYoung 72 = .ok (.getfield 23, 3) := by decide +kernel
theorem dX4_findYoung_75 : decode cX4_findYoung 75 = .ok (.getfield 96, 3) := by decide +kernel
theorem dX4_findYoung_78 : decode cX4_findYoung 78 = .ok (.if_icmp .ge 27, 3) := by decide +kernel
theorem dX4_findYoung_81 : decode cX4_findYoung 81 = .ok (.iload_n 1, 1) := by decide +kernel
theorem dX4_findYoung_82 : decode cX4_findYoung 82 = .ok (.bipush 80, 2) := by decide +kernel
theorem dX4_findYoung_84 : decode cX4_findYoung 84 = .ok (.if_icmp .ge 21, 3) := by decide +kernel
theorem dX4_findYoung_87 : decode cX4_findYoung 87 = .ok (.aload_n 0, 1) := by decide +kernel
theorem dX4_findYoung_88 : decode cX4_findYoung 88 = .ok (.aload_n 0, 1) := by decide +kernel
theorem dX4_findYoung_89 : decode cX4_findYoung 89 = .ok (.getfield 23, 3) := by decide +kernel
theorem dX4_findYoung_92 : decode cX4_findYoung 92 = .ok (.iload_n 1, 1) := by decide +kernel
theorem dX4_findYoung_93 : decode cX4_findYoung 93 = .ok (.invokevirtual 99, 3) := by decide +kernel
theorem dX4_findYoung_96 : decode cX4_findYoung 96 = .ok (.invokevirtual 169, 3) := by decide +kernel
theorem dX4_findYoung_99 : decode cX4_findYoung 99 = .ok (.iinc 1 1, 3) := by decide +kernel
theorem dX4_findYoung_102 : decode cX4_findYoung 102 = .ok (.goto (-32), 3) := by decide +kernel
theorem dX4_findYoung_105 : decode cX4_findYoung 105 = .ok (.return_, 1) := by decide +kernel
theorem dX4_addYoungNamedBy_0 : decode cX4_addYoungNamedBy 0 = .ok (.iconst 0, 1) := by decide +kernel
theorem dX4_addYoungNamedBy_1 : decode cX4_addYoungNamedBy 1 = .ok (.istore_n 2, 1) := by decide +kernel
theorem dX4_addYoungNamedBy_2 : decode cX4_addYoungNamedBy 2 = .ok (.iload_n 2, 1) := by decide +kernel
theorem dX4_addYoungNamedBy_3 : decode cX4_addYoungNamedBy 3 = .ok (.aload_n 0, 1) := by decide +kernel
theorem dX4_addYoungNamedBy_4 : decode cX4_addYoungNamedBy 4 = .ok (.getfield 49, 3) := by decide +kernel
theorem dX4_addYoungNamedBy_7 : decode cX4_addYoungNamedBy 7 = .ok (.iload_n 1, 1) := by decide +kernel
theorem dX4_addYoungNamedBy_8 : decode cX4_addYoungNamedBy 8 = .ok (.invokevirtual 140, 3) := by decide +kernel
theorem dX4_addYoungNamedBy_11 : decode cX4_addYoungNamedBy 11 = .ok (.if_icmp .ge 22, 3) := by decide +kernel
theorem dX4_addYoungNamedBy_14 : decode cX4_addYoungNamedBy 14 = .ok (.aload_n 0, 1) := by decide +kernel
theorem dX4_addYoungNamedBy_15 : decode cX4_addYoungNamedBy 15 = .ok (.aload_n 0, 1) := by decide +kernel
theorem dX4_addYoungNamedBy_16 : decode cX4_addYoungNamedBy 16 = .ok (.getfield 49, 3) := by decide +kernel
theorem dX4_addYoungNamedBy_19 : decode cX4_addYoungNamedBy 19 = .ok (.iload_n 1, 1) := by decide +kernel
theorem dX4_addYoungNamedBy_20 : decode cX4_addYoungNamedBy 20 = .ok (.iload_n 2, 1) := by decide +kernel
theorem dX4_addYoungNamedBy_21 : decode cX4_addYoungNamedBy 21 = .ok (.invokevirtual 143, 3) := by decide +kernel
theorem dX4_addYoungNamedBy_24 : decode cX4_addYoungNamedBy 24 = .ok (.invokevirtual 163, 3) := by decide +kernel
theorem dX4_addYoungNamedBy_27 : decode cX4_addYoungNamedBy 27 = .ok (.iinc 2 1, 3) := by decide +kernel
theorem dX4_addYoungNamedBy_30 : decode cX4_addYoungNamedBy 30 = .ok (.goto (-28), 3) := by decide +kernel
theorem dX4_addYoungNamedBy_33 : decode cX4_addYoungNamedBy 33 = .ok (.return_, 1) := by decide +kernel
theorem dX4_addYoung_0 : decode cX4_addYoung 0 = .ok (.aload_n 0, 1) := by decide +kernel
theorem dX4_addYoung_1 : decode cX4_addYoung 1 = .ok (.getfield 14, 3) := by decide +kernel
theorem dX4_addYoung_4 : decode cX4_addYoung 4 = .ok (.iload_n 1, 1) := by decide +kernel
theorem dX4_addYoung_5 : decode cX4_addYoung 5 = .ok (.invokevirtual 134, 3) := by decide +kernel
theorem dX4_addYoung_8 : decode cX4_addYoung 8 = .ok (.ifCond .eq 11, 3) := by decide +kernel
theorem dX4_addYoung_11 : decode cX4_addYoung 11 = .ok (.aload_n 0, 1) := by decide +kernel
theorem dX4_addYoung_12 : decode cX4_addYoung 12 = .ok (.getfield 23, 3) := by decide +kernel
theorem dX4_addYoung_15 : decode cX4_addYoung 15 = .ok (.iload_n 1, 1) := by decide +kernel
theorem dX4_addYoung_16 : decode cX4_addYoung 16 = .ok (.invokevirtual 157, 3) := by decide +kernel
theorem dX4_addYoung_19 : decode cX4_addYoung 19 = .ok (.return_, 1) := by decide +kernel
theorem dX4_moveFound_0 : decode cX4_moveFound 0 = .ok (.aload_n 0, 1) := by decide +kernel
theorem dX4_moveFound_1 : decode cX4_moveFound 1 = .ok (.getfield 49, 3) := by decide +kernel
theorem dX4_moveFound_4 : decode cX4_moveFound 4 = .ok (.iload_n 1, 1) := by decide +kernel
theorem dX4_moveFound_5 : decode cX4_moveFound 5 = .ok (.invokevirtual 53, 3) := by decide +kernel
theorem dX4_moveFound_8 : decode cX4_moveFound 8 = .ok (.istore_n 2, 1) := by decide +kernel
theorem dX4_moveFound_9 : decode cX4_moveFound 9 = .ok (.aload_n 0, 1) := by decide +kernel
theorem dX4_moveFound_10 : decode cX4_moveFound 10 = .ok (.iload_n 1, 1) := by decide +kernel
theorem dX4_moveFound_11 : decode cX4_moveFound 11 = .ok (.invokevirtual 137, 3) := by decide +kernel
theorem dX4_moveFound_14 : decode cX4_moveFound 14 = .ok (.ifCond .eq 21, 3) := by decide +kernel
theorem dX4_moveFound_17 : decode cX4_moveFound 17 = .ok (.aload_n 0, 1) := by decide +kernel
theorem dX4_moveFound_18 : decode cX4_moveFound 18 = .ok (.iload_n 1, 1) := by decide +kernel
theorem dX4_moveFound_19 : decode cX4_moveFound 19 = .ok (.invokevirtual 102, 3) := by decide +kernel
theorem dX4_moveFound_22 : decode cX4_moveFound 22 = .ok (.aload_n 0, 1) := by decide +kernel
theorem dX4_moveFound_23 : decode cX4_moveFound 23 = .ok (.dup, 1) := by decide +kernel
theorem dX4_moveFound_24 : decode cX4_moveFound 24 = .ok (.getfield 46, 3) := by decide +kernel
theorem dX4_moveFound_27 : decode cX4_moveFound 27 = .ok (.iload_n 2, 1) := by decide +kernel
theorem dX4_moveFound_28 : decode cX4_moveFound 28 = .ok (.iadd, 1) := by decide +kernel
theorem dX4_moveFound_29 : decode cX4_moveFound 29 = .ok (.putfield 46, 3) := by decide +kernel
theorem dX4_moveFound_32 : decode cX4_moveFound 32 = .ok (.goto 9, 3) := by decide +kernel
theorem dX4_moveFound_35 : decode cX4_moveFound 35 = .ok (.aload_n 0, 1) := by decide +kernel
theorem dX4_moveFound_36 : decode cX4_moveFound 36 = .ok (.iload_n 1, 1) := by decide +kernel
theorem dX4_moveFound_37 : decode cX4_moveFound 37 = .ok (.iconst 1, 1) := by decide +kernel
theorem dX4_moveFound_38 : decode cX4_moveFound 38 = .ok (.invokevirtual 73, 3) := by decide +kernel
theorem dX4_moveFound_41 : decode cX4_moveFound 41 = .ok (.aload_n 0, 1) := by decide +kernel
theorem dX4_moveFound_42 : decode cX4_moveFound 42 = .ok (.dup, 1) := by decide +kernel
theorem dX4_moveFound_43 : decode cX4_moveFound 43 = .ok (.getfield 106, 3) := by decide +kernel
theorem dX4_moveFound_46 : decode cX4_moveFound 46 = .ok (.iload_n 2, 1) := by decide +kernel
theorem dX4_moveFound_47 : decode cX4_moveFound 47 = .ok (.iadd, 1) := by decide +kernel
theorem dX4_moveFound_48 : decode cX4_moveFound 48 = .ok (.putfield 106, 3) := by decide +kernel
theorem dX4_moveFound_51 : decode cX4_moveFound 51 = .ok (.return_, 1) := by decide +kernel
theorem dX4_putYoung_0 : decode cX4_putYoung 0 = .ok (.aload_n 0, 1) := by decide +kernel
theorem dX4_putYoung_1 : decode cX4_putYoung 1 = .ok (.getfield 49, 3) := by decide +kernel
theorem dX4_putYoung_4 : decode cX4_putYoung 4 = .ok (.iload_n 1, 1) := by decide +kernel
theorem dX4_putYoung_5 : decode cX4_putYoung 5 = .ok (.invokevirtual 147, 3) := by decide +kernel
theorem dX4_putYoung_8 : decode cX4_putYoung 8 = .ok (.ifCond .eq 44, 3) := by decide +kernel
theorem dX4_putYoung_11 : decode cX4_putYoung 11 = .ok (.aload_n 0, 1) := by decide +kernel
theorem dX4_putYoung_12 : decode cX4_putYoung 12 = .ok (.getfield 26, 3) := by decide +kernel
theorem dX4_putYoung_15 : decode cX4_putYoung 15 = .ok (.iload_n 1, 1) := by decide +kernel
theorem dX4_putYoung_16 : decode cX4_putYoung 16 = .ok (.iload_n 2, 1) := by decide +kernel
theorem dX4_putYoung_17 : decode cX4_putYoung 17 = .ok (.bastore, 1) := by decide +kernel
theorem dX4_putYoung_18 : decode cX4_putYoung 18 = .ok (.aload_n 0, 1) := by decide +kernel
theorem dX4_putYoung_19 : decode cX4_putYoung 19 = .ok (.getfield 14, 3) := by decide +kernel
theorem dX4_putYoung_22 : decode cX4_putYoung 22 = .ok (.iload_n 1, 1) := by decide +kernel
theorem dX4_putYoung_23 : decode cX4_putYoung 23 = .ok (.invokevirtual 157, 3) := by decide +kernel
theorem dX4_putYoung_26 : decode cX4_putYoung 26 = .ok (.aload_n 0, 1) := by decide +kernel
theorem dX4_putYoung_27 : decode cX4_putYoung 27 = .ok (.iload_n 1, 1) := by decide +kernel
theorem dX4_putYoung_28 : decode cX4_putYoung 28 = .ok (.aload_n 0, 1) := by decide +kernel
theorem dX4_putYoung_29 : decode cX4_putYoung 29 = .ok (.getfield 37, 3) := by decide +kernel
theorem dX4_putYoung_32 : decode cX4_putYoung 32 = .ok (.invokevirtual 172, 3) := by decide +kernel
theorem dX4_putYoung_35 : decode cX4_putYoung 35 = .ok (.aload_n 0, 1) := by decide +kernel
theorem dX4_putYoung_36 : decode cX4_putYoung 36 = .ok (.dup, 1) := by decide +kernel
theorem dX4_putYoung_37 : decode cX4_putYoung 37 = .ok (.getfield 37, 3) := by decide +kernel
theorem dX4_putYoung_40 : decode cX4_putYoung 40 = .ok (.aload_n 0, 1) := by decide +kernel
theorem dX4_putYoung_41 : decode cX4_putYoung 41 = .ok (.getfield 49, 3) := by decide +kernel
theorem dX4_putYoung_44 : decode cX4_putYoung 44 = .ok (.iload_n 1, 1) := by decide +kernel
theorem dX4_putYoung_45 : decode cX4_putYoung 45 = .ok (.invokevirtual 53, 3) := by decide +kernel
theorem dX4_putYoung_48 : decode cX4_putYoung 48 = .ok (.iadd, 1) := by decide +kernel
theorem dX4_putYoung_49 : decode cX4_putYoung 49 = .ok (.putfield 37, 3) := by decide +kernel
theorem dX4_putYoung_52 : decode cX4_putYoung 52 = .ok (.return_, 1) := by decide +kernel
theorem dX4_putOld_0 : decode cX4_putOld 0 = .ok (.aload_n 0, 1) := by decide +kernel
theorem dX4_putOld_1 : decode cX4_putOld 1 = .ok (.getfield 20, 3) := by decide +kernel
theorem dX4_putOld_4 : decode cX4_putOld 4 = .ok (.iload_n 1, 1) := by decide +kernel
theorem dX4_putOld_5 : decode cX4_putOld 5 = .ok (.invokevirtual 157, 3) := by decide +kernel
theorem dX4_putOld_8 : decode cX4_putOld 8 = .ok (.aload_n 0, 1) := by decide +kernel
theorem dX4_putOld_9 : decode cX4_putOld 9 = .ok (.iload_n 1, 1) := by decide +kernel
theorem dX4_putOld_10 : decode cX4_putOld 10 = .ok (.aload_n 0, 1) := by decide +kernel
theorem dX4_putOld_11 : decode cX4_putOld 11 = .ok (.getfield 30, 3) := by decide +kernel
theorem dX4_putOld_14 : decode cX4_putOld 14 = .ok (.invokevirtual 172, 3) := by decide +kernel
theorem dX4_putOld_17 : decode cX4_putOld 17 = .ok (.aload_n 0, 1) := by decide +kernel
theorem dX4_putOld_18 : decode cX4_putOld 18 = .ok (.dup, 1) := by decide +kernel
theorem dX4_putOld_19 : decode cX4_putOld 19 = .ok (.getfield 30, 3) := by decide +kernel
theorem dX4_putOld_22 : decode cX4_putOld 22 = .ok (.aload_n 0, 1) := by decide +kernel
theorem dX4_putOld_23 : decode cX4_putOld 23 = .ok (.getfield 49, 3) := by decide +kernel
theorem dX4_putOld_26 : decode cX4_putOld 26 = .ok (.iload_n 1, 1) := by decide +kernel
theorem dX4_putOld_27 : decode cX4_putOld 27 = .ok (.invokevirtual 53, 3) := by decide +kernel
theorem dX4_putOld_30 : decode cX4_putOld 30 = .ok (.iadd, 1) := by decide +kernel
theorem dX4_putOld_31 : decode cX4_putOld 31 = .ok (.putfield 30, 3) := by decide +kernel
theorem dX4_putOld_34 : decode cX4_putOld 34 = .ok (.return_, 1) := by decide +kernel
theorem dX5_init_0 : decode cX5_init 0 = .ok (.aload_n 0, 1) := by decide +kernel
theorem dX5_init_1 : decode cX5_init 1 = .ok (.invokespecial 3, 3) := by decide +kernel
theorem dX5_init_4 : decode cX5_init 4 = .ok (.aload_n 0, 1) := by decide +kernel
theorem dX5_init_5 : decode cX5_init 5 = .ok (.bipush 80, 2) := by decide +kernel
theorem dX5_init_7 : decode cX5_init 7 = .ok (.newarray .int, 2) := by decide +kernel
theorem dX5_init_9 : decode cX5_init 9 = .ok (.putfield 9, 3) := by decide +kernel
theorem dX5_init_12 : decode cX5_init 12 = .ok (.aload_n 0, 1) := by decide +kernel
theorem dX5_init_13 : decode cX5_init 13 = .ok (.bipush 80, 2) := by decide +kernel
theorem dX5_init_15 : decode cX5_init 15 = .ok (.newarray .boolean, 2) := by decide +kernel
theorem dX5_init_17 : decode cX5_init 17 = .ok (.putfield 15, 3) := by decide +kernel
theorem dX5_init_20 : decode cX5_init 20 = .ok (.return_, 1) := by decide +kernel
theorem dX5_empty_0 : decode cX5_empty 0 = .ok (.iconst 0, 1) := by decide +kernel
theorem dX5_empty_1 : decode cX5_empty 1 = .ok (.istore_n 1, 1) := by decide +kernel
theorem dX5_empty_2 : decode cX5_empty 2 = .ok (.iload_n 1, 1) := by decide +kernel
theorem dX5_empty_3 : decode cX5_empty 3 = .ok (.bipush 80, 2) := by decide +kernel
theorem dX5_empty_5 : decode cX5_empty 5 = .ok (.if_icmp .ge 16, 3) := by decide +kernel
theorem dX5_empty_8 : decode cX5_empty 8 = .ok (.aload_n 0, 1) := by decide +kernel
theorem dX5_empty_9 : decode cX5_empty 9 = .ok (.getfield 15, 3) := by decide +kernel
theorem dX5_empty_12 : decode cX5_empty 12 = .ok (.iload_n 1, 1) := by decide +kernel
theorem dX5_empty_13 : decode cX5_empty 13 = .ok (.iconst 0, 1) := by decide +kernel
theorem dX5_empty_14 : decode cX5_empty 14 = .ok (.bastore, 1) := by decide +kernel
theorem dX5_empty_15 : decode cX5_empty 15 = .ok (.iinc 1 1, 3) := by decide +kernel
theorem dX5_empty_18 : decode cX5_empty 18 = .ok (.goto (-16), 3) := by decide +kernel
theorem dX5_empty_21 : decode cX5_empty 21 = .ok (.aload_n 0, 1) := by decide +kernel
theorem dX5_empty_22 : decode cX5_empty 22 = .ok (.iconst 0, 1) := by decide +kernel
theorem dX5_empty_23 : decode cX5_empty 23 = .ok (.putfield 19, 3) := by decide +kernel
theorem dX5_empty_26 : decode cX5_empty 26 = .ok (.return_, 1) := by decide +kernel
theorem dX5_add_0 : decode cX5_add 0 = .ok (.iload_n 1, 1) := by decide +kernel
theorem dX5_add_1 : decode cX5_add 1 = .ok (.ifCond .lt 27, 3) := by decide +kernel
theorem dX5_add_4 : decode cX5_add 4 = .ok (.iload_n 1, 1) := by decide +kernel
theorem dX5_add_5 : decode cX5_add 5 = .ok (.bipush 80, 2) := by decide +kernel
theorem dX5_add_7 : decode cX5_add 7 = .ok (.if_icmp .ge 21, 3) := by decide +kernel
theorem dX5_add_10 : decode cX5_add 10 = .ok (.aload_n 0, 1) := by decide +kernel
theorem dX5_add_11 : decode cX5_add 11 = .ok (.getfield 15, 3) := by decide +kernel
theorem dX5_add_14 : decode cX5_add 14 = .ok (.iload_n 1, 1) := by decide +kernel
theorem dX5_add_15 : decode cX5_add 15 = .ok (.baload, 1) := by decide +kernel
theorem dX5_add_16 : decode cX5_add 16 = .ok (.ifCond .ne 12, 3) := by decide +kernel
theorem dX5_add_19 : decode cX5_add 19 = .ok (.aload_n 0, 1) := by decide +kernel
theorem dX5_add_20 : decode cX5_add 20 = .ok (.getfield 19, 3) := by decide +kernel
theorem dX5_add_23 : decode cX5_add 23 = .ok (.bipush 80, 2) := by decide +kernel
theorem dX5_add_25 : decode cX5_add 25 = .ok (.if_icmp .lt 4, 3) := by decide +kernel
theorem dX5_add_28 : decode cX5_add 28 = .ok (.return_, 1) := by decide +kernel
theorem dX5_add_29 : decode cX5_add 29 = .ok (.aload_n 0, 1) := by decide +kernel
theorem dX5_add_30 : decode cX5_add 30 = .ok (.getfield 15, 3) := by decide +kernel
theorem dX5_add_33 : decode cX5_add 33 = .ok (.iload_n 1, 1) := by decide +kernel
theorem dX5_add_34 : decode cX5_add 34 = .ok (.iconst 1, 1) := by decide +kernel
theorem dX5_add_35 : decode cX5_add 35 = .ok (.bastore, 1) := by decide +kernel
theorem dX5_add_36 : decode cX5_add 36 = .ok (.aload_n 0, 1) := by decide +kernel
theorem dX5_add_37 : decode cX5_add 37 = .ok (.getfield 9, 3) := by decide +kernel
theorem dX5_add_40 : decode cX5_add 40 = .ok (.aload_n 0, 1) := by decide +kernel
theorem dX5_add_41 : decode cX5_add 41 = .ok (.getfield 19, 3) := by decide +kernel
theorem dX5_add_44 : decode cX5_add 44 = .ok (.iload_n 1, 1) := by decide +kernel
theorem dX5_add_45 : decode cX5_add 45 = .ok (.iastore, 1) := by decide +kernel
theorem dX5_add_46 : decode cX5_add 46 = .ok (.aload_n 0, 1) := by decide +kernel
theorem dX5_add_47 : decode cX5_add 47 = .ok (.dup, 1) := by decide +kernel
theorem dX5_add_48 : decode cX5_add 48 = .ok (.getfield 19, 3) := by decide +kernel
theorem dX5_add_51 : decode cX5_add 51 = .ok (.iconst 1, 1) := by decide +kernel
theorem dX5_add_52 : decode cX5_add 52 = .ok (.iadd, 1) := by decide +kernel
theorem dX5_add_53 : decode cX5_add 53 = .ok (.putfield 19, 3) := by decide +kernel
theorem dX5_add_56 : decode cX5_add 56 = .ok (.return_, 1) := by decide +kernel
theorem dX5_holds_0 : decode cX5_holds 0 = .ok (.iload_n 1, 1) := by decide +kernel
theorem dX5_holds_1 : decode cX5_holds 1 = .ok (.ifCond .lt 22, 3) := by decide +kernel
theorem dX5_holds_4 : decode cX5_holds 4 = .ok (.iload_n 1, 1) := by decide +kernel
theorem dX5_holds_5 : decode cX5_holds 5 = .ok (.bipush 80, 2) := by decide +kernel
theorem dX5_holds_7 : decode cX5_holds 7 = .ok (.if_icmp .ge 16, 3) := by decide +kernel
theorem dX5_holds_10 : decode cX5_holds 10 = .ok (.aload_n 0, 1) := by decide +kernel
theorem dX5_holds_11 : decode cX5_holds 11 = .ok (.getfield 15, 3) := by decide +kernel
theorem dX5_holds_14 : decode cX5_holds 14 = .ok (.iload_n 1, 1) := by decide +kernel
theorem dX5_holds_15 : decode cX5_holds 15 = .ok (.baload, 1) := by decide +kernel
theorem dX5_holds_16 : decode cX5_holds 16 = .ok (.ifCond .eq 7, 3) := by decide +kernel
theorem dX5_holds_19 : decode cX5_holds 19 = .ok (.iconst 1, 1) := by decide +kernel
theorem dX5_holds_20 : decode cX5_holds 20 = .ok (.goto 4, 3) := by decide +kernel
theorem dX5_holds_23 : decode cX5_holds 23 = .ok (.iconst 0, 1) := by decide +kernel
theorem dX5_holds_24 : decode cX5_holds 24 = .ok (.ireturn, 1) := by decide +kernel
theorem dX5_get_0 : decode cX5_get 0 = .ok (.iload_n 1, 1) := by decide +kernel
theorem dX5_get_1 : decode cX5_get 1 = .ok (.ifCond .lt 20, 3) := by decide +kernel
theorem dX5_get_4 : decode cX5_get 4 = .ok (.iload_n 1, 1) := by decide +kernel
theorem dX5_get_5 : decode cX5_get 5 = .ok (.aload_n 0, 1) := by decide +kernel
theorem dX5_get_6 : decode cX5_get 6 = .ok (.getfield 19, 3) := by decide +kernel
theorem dX5_get_9 : decode cX5_get 9 = .ok (.if_icmp .ge 12, 3) := by decide +kernel
theorem dX5_get_12 : decode cX5_get 12 = .ok (.aload_n 0, 1) := by decide +kernel
theorem dX5_get_13 : decode cX5_get 13 = .ok (.getfield 9, 3) := by decide +kernel
theorem dX5_get_16 : decode cX5_get 16 = .ok (.iload_n 1, 1) := by decide +kernel
theorem dX5_get_17 : decode cX5_get 17 = .ok (.iaload, 1) := by decide +kernel
theorem dX5_get_18 : decode cX5_get 18 = .ok (.goto 4, 3) := by decide +kernel
theorem dX5_get_21 : decode cX5_get 21 = .ok (.iconst (-1), 1) := by decide +kernel
theorem dX5_get_22 : decode cX5_get 22 = .ok (.ireturn, 1) := by decide +kernel
theorem dX6_init_0 : decode cX6_init 0 = .ok (.aload_n 0, 1) := by decide +kernel
theorem dX6_init_1 : decode cX6_init 1 = .ok (.aload_n 1, 1) := by decide +kernel
theorem dX6_init_2 : decode cX6_init 2 = .ok (.invokespecial 3, 3) := by decide +kernel
theorem dX6_init_5 : decode cX6_init 5 = .ok (.aload_n 0, 1) := by decide +kernel
theorem dX6_init_6 : decode cX6_init 6 = .ok (.sipush 160, 3) := by decide +kernel
theorem dX6_init_9 : decode cX6_init 9 = .ok (.newarray .boolean, 2) := by decide +kernel
theorem dX6_init_11 : decode cX6_init 11 = .ok (.putfield 9, 3) := by decide +kernel
theorem dX6_init_14 : decode cX6_init 14 = .ok (.return_, 1) := by decide +kernel
theorem dX6_firstPlaceFor_0 : decode cX6_firstPlaceFor 0 = .ok (.aload_n 0, 1) := by decide +kernel
theorem dX6_firstPlaceFor_1 : decode cX6_firstPlaceFor 1 = .ok (.getfield 15, 3) := by decide +kernel
theorem dX6_firstPlaceFor_4 : decode cX6_firstPlaceFor 4 = .ok (.iload_n 1, 1) := by decide +kernel
theorem dX6_firstPlaceFor_5 : decode cX6_firstPlaceFor 5 = .ok (.invokevirtual 19, 3) := by decide +kernel
theorem dX6_firstPlaceFor_8 : decode cX6_firstPlaceFor 8 = .ok (.istore_n 2, 1) := by decide +kernel
theorem dX6_firstPlaceFor_9 : decode cX6_firstPlaceFor 9 = .ok (.iconst 0, 1) := by decide +kernel
theorem dX6_firstPlaceFor_10 : decode cX6_firstPlaceFor 10 = .ok (.istore_n 3, 1) := by decide +kernel
theorem dX6_firstPlaceFor_11 : decode cX6_firstPlaceFor 11 = .ok (.aload_n 0, 1) := by decide +kernel
theorem dX6_firstPlaceFor_12 : decode cX6_firstPlaceFor 12 = .ok (.invokevirtual 25, 3) := by decide +kernel
theorem dX6_firstPlaceFor_15 : decode cX6_firstPlaceFor 15 = .ok (.iconst 0, 1) := by decide +kernel
theorem dX6_firstPlaceFor_16 : decode cX6_firstPlaceFor 16 = .ok (.istore 4, 2) := by decide +kernel
theorem dX6_firstPlaceFor_18 : decode cX6_firstPlaceFor 18 = .ok (.iload 4, 2) := by decide +kernel
theorem dX6_firstPlaceFor_20 : decode cX6_firstPlaceFor 20 = .ok (.aload_n 0, 1) := by decide +kernel
theorem dX6_firstPlaceFor_21 : decode cX6_firstPlaceFor 21 = .ok (.getfield 29, 3) := by decide +kernel
theorem dX6_firstPlaceFor_24 : decode cX6_firstPlaceFor 24 = .ok (.if_icmp .ge 47, 3) := by decide +kernel
theorem dX6_firstPlaceFor_27 : decode cX6_firstPlaceFor 27 = .ok (.iload 4, 2) := by decide +kernel
theorem dX6_firstPlaceFor_29 : decode cX6_firstPlaceFor 29 = .ok (.sipush 160, 3) := by decide +kernel
theorem dX6_firstPlaceFor_32 : decode cX6_firstPlaceFor 32 = .ok (.if_icmp .ge 39, 3) := by decide +kernel
theorem dX6_firstPlaceFor_35 : decode cX6_firstPlaceFor 35 = .ok (.aload_n 0, 1) := by decide +kernel
theorem dX6_firstPlaceFor_36 : decode cX6_firstPlaceFor 36 = .ok (.getfield 9, 3) := by decide +kernel
theorem dX6_firstPlaceFor_39 : decode cX6_firstPlaceFor 39 = .ok (.iload 4, 2) := by decide +kernel
theorem dX6_firstPlaceFor_41 : decode cX6_firstPlaceFor 41 = .ok (.baload, 1) := by decide +kernel
theorem dX6_firstPlaceFor_42 : decode cX6_firstPlaceFor 42 = .ok (.ifCond .eq 7, 3) := by decide +kernel
theorem dX6_firstPlaceFor_45 : decode cX6_firstPlaceFor 45 = .ok (.iconst 0, 1) := by decide +kernel
theorem dX6_firstPlaceFor_46 : decode cX6_firstPlaceFor 46 = .ok (.goto 6, 3) := by decide +kernel
theorem dX6_firstPlaceFor_49 : decode cX6_firstPlaceFor 49 = .ok (.iload_n 3, 1) := by decide +kernel
theorem dX6_firstPlaceFor_50 : decode cX6_firstPlaceFor 50 = .ok (.iconst 1, 1) := by decide +kernel
theorem dX6_firstPlaceFor_51 : decode cX6_firstPlaceFor 51 = .ok (.iadd, 1) := by decide +kernel
theorem dX6_firstPlaceFor_52 : decode cX6_firstPlaceFor 52 = .ok (.istore_n 3, 1) := by decide +kernel
theorem dX6_firstPlaceFor_53 : decode cX6_firstPlaceFor 53 = .ok (.iload_n 3, 1) := by decide +kernel
theorem dX6_firstPlaceFor_54 : decode cX6_firstPlaceFor 54 = .ok (.iload_n 2, 1) := by decide +kernel
theorem dX6_firstPlaceFor_55 : decode cX6_firstPlaceFor 55 = .ok (.if_icmp .ne 10, 3) := by decide +kernel
theorem dX6_firstPlaceFor_58 : decode cX6_firstPlaceFor 58 = .ok (.iload 4, 2) := by decide +kernel
theorem dX6_firstPlaceFor_60 : decode cX6_firstPlaceFor 60 = .ok (.iload_n 2, 1) := by decide +kernel
theorem dX6_firstPlaceFor_61 : decode cX6_firstPlaceFor 61 = .ok (.isub, 1) := by decide +kernel
theorem dX6_firstPlaceFor_62 : decode cX6_firstPlaceFor 62 = .ok (.iconst 1, 1) := by decide +kernel
theorem dX6_firstPlaceFor_63 : decode cX6_firstPlaceFor 63 = .ok (.iadd, 1) := by decide +kernel
theorem dX6_firstPlaceFor_64 : decode cX6_firstPlaceFor 64 = .ok (.ireturn, 1) := by decide +kernel
theorem dX6_firstPlaceFor_65 : decode cX6_firstPlaceFor 65 = .ok (.iinc 4 1, 3) := by decide +kernel
theorem dX6_firstPlaceFor_68 : decode cX6_firstPlaceFor 68 = .ok (.goto (-50), 3) := by decide +kernel
theorem dX6_firstPlaceFor_71 : decode cX6_firstPlaceFor 71 = .ok (.iconst (-1), 1) := by decide +kernel
theorem dX6_firstPlaceFor_72 : decode cX6_firstPlaceFor 72 = .ok (.ireturn, 1) := by decide +kernel
theorem dX6_freeTogether_0 : decode cX6_freeTogether 0 = .ok (.iconst 0, 1) := by decide +kernel
theorem dX6_freeTogether_1 : decode cX6_freeTogether 1 = .ok (.istore_n 1, 1) := by decide +kernel
theorem dX6_freeTogether_2 : decode cX6_freeTogether 2 = .ok (.iconst 0, 1) := by decide +kernel
theorem dX6_freeTogether_3 : decode cX6_freeTogether 3 = .ok (.istore_n 2, 1) := by decide +kernel
theorem dX6_freeTogether_4 : decode cX6_freeTogether 4 = .ok (.aload_n 0, 1) := by decide +kernel
theorem dX6_freeTogether_5 : decode cX6_freeTogether 5 = .ok (.invokevirtual 25, 3) := by decide +kernel
theorem dX6_freeTogether_8 : decode cX6_freeTogether 8 = .ok (.iconst 0, 1) := by decide +kernel
theorem dX6_freeTogether_9 : decode cX6_freeTogether 9 = .ok (.istore_n 3, 1) := by decide +kernel
theorem dX6_freeTogether_10 : decode cX6_freeTogether 10 = .ok (.iload_n 3, 1) := by decide +kernel
theorem dX6_freeTogether_11 : decode cX6_freeTogether 11 = .ok (.aload_n 0, 1) := by decide +kernel
theorem dX6_freeTogether_12 : decode cX6_freeTogether 12 = .ok (.getfield 29, 3) := by decide +kernel
theorem dX6_freeTogether_15 : decode cX6_freeTogether 15 = .ok (.if_icmp .ge 39, 3) := by decide +kernel
theorem dX6_freeTogether_18 : decode cX6_freeTogether 18 = .ok (.iload_n 3, 1) := by decide +kernel
theorem dX6_freeTogether_19 : decode cX6_freeTogether 19 = .ok (.sipush 160, 3) := by decide +kernel
theorem dX6_freeTogether_22 : decode cX6_freeTogether 22 = .ok (.if_icmp .ge 32, 3) := by decide +kernel
theorem dX6_freeTogether_25 : decode cX6_freeTogether 25 = .ok (.aload_n 0, 1) := by decide +kernel
theorem dX6_freeTogether_26 : decode cX6_freeTogether 26 = .ok (.getfield 9, 3) := by decide +kernel
theorem dX6_freeTogether_29 : decode cX6_freeTogether 29 = .ok (.iload_n 3, 1) := by decide +kernel
theorem dX6_freeTogether_30 : decode cX6_freeTogether 30 = .ok (.baload, 1) := by decide +kernel
theorem dX6_freeTogether_31 : decode cX6_freeTogether 31 = .ok (.ifCond .eq 7, 3) := by decide +kernel
theorem dX6_freeTogether_34 : decode cX6_freeTogether 34 = .ok (.iconst 0, 1) := by decide +kernel
theorem dX6_freeTogether_35 : decode cX6_freeTogether 35 = .ok (.goto 6, 3) := by decide +kernel
theorem dX6_freeTogether_38 : decode cX6_freeTogether 38 = .ok (.iload_n 2, 1) := by decide +kernel
theorem dX6_freeTogether_39 : decode cX6_freeTogether 39 = .ok (.iconst 1, 1) := by decide +kernel
theorem dX6_freeTogether_40 : decode cX6_freeTogether 40 = .ok (.iadd, 1) := by decide +kernel
theorem dX6_freeTogether_41 : decode cX6_freeTogether 41 = .ok (.istore_n 2, 1) := by decide +kernel
theorem dX6_freeTogether_42 : decode cX6_freeTogether 42 = .ok (.iload_n 1, 1) := by decide +kernel
theorem dX6_freeTogether_43 : decode cX6_freeTogether 43 = .ok (.iload_n 2, 1) := by decide +kernel
theorem dX6_freeTogether_44 : decode cX6_freeTogether 44 = .ok (.invokestatic 33, 3) := by decide +kernel
theorem dX6_freeTogether_47 : decode cX6_freeTogether 47 = .ok (.istore_n 1, 1) := by decide +kernel
theorem dX6_freeTogether_48 : decode cX6_freeTogether 48 = .ok (.iinc 3 1, 3) := by decide +kernel
theorem dX6_freeTogether_51 : decode cX6_freeTogether 51 = .ok (.goto (-41), 3) := by decide +kernel
theorem dX6_freeTogether_54 : decode cX6_freeTogether 54 = .ok (.iload_n 1, 1) := by decide +kernel
theorem dX6_freeTogether_55 : decode cX6_freeTogether 55 = .ok (.ireturn, 1) := by decide +kernel
theorem dX6_markTaken_0 : decode cX6_markTaken 0 = .ok (.iconst 0, 1) := by decide +kernel
theorem dX6_markTaken_1 : decode cX6_markTaken 1 = .ok (.istore_n 1, 1) := by decide +kernel
theorem dX6_markTaken_2 : decode cX6_markTaken 2 = .ok (.iload_n 1, 1) := by decide +kernel
theorem dX6_markTaken_3 : decode cX6_markTaken 3 = .ok (.sipush 160, 3) := by decide +kernel
theorem dX6_markTaken_6 : decode cX6_markTaken 6 = .ok (.if_icmp .ge 16, 3) := by decide +kernel
theorem dX6_markTaken_9 : decode cX6_markTaken 9 = .ok (.aload_n 0, 1) := by decide +kernel
theorem dX6_markTaken_10 : decode cX6_markTaken 10 = .ok (.getfield 9, 3) := by decide +kernel
theorem dX6_markTaken_13 : decode cX6_markTaken 13 = .ok (.iload_n 1, 1) := by decide +kernel
theorem dX6_markTaken_14 : decode cX6_markTaken 14 = .ok (.iconst 0, 1) := by decide +kernel
theorem dX6_markTaken_15 : decode cX6_markTaken 15 = .ok (.bastore, 1) := by decide +kernel
theorem dX6_markTaken_16 : decode cX6_markTaken 16 = .ok (.iinc 1 1, 3) := by decide +kernel
theorem dX6_markTaken_19 : decode cX6_markTaken 19 = .ok (.goto (-17), 3) := by decide +kernel
theorem dX6_markTaken_22 : decode cX6_markTaken 22 = .ok (.iconst 0, 1) := by decide +kernel
theorem dX6_markTaken_23 : decode cX6_markTaken 23 = .ok (.istore_n 1, 1) := by decide +kernel
theorem dX6_markTaken_24 : decode cX6_markTaken 24 = .ok (.iload_n 1, 1) := by decide +kernel
theorem dX6_markTaken_25 : decode cX6_markTaken 25 = .ok (.aload_n 0, 1) := by decide +kernel
theorem dX6_markTaken_26 : decode cX6_markTaken 26 = .ok (.getfield 15, 3) := by decide +kernel
theorem dX6_markTaken_29 : decode cX6_markTaken 29 = .ok (.getfield 39, 3) := by decide +kernel
theorem dX6_markTaken_32 : decode cX6_markTaken 32 = .ok (.if_icmp .ge 22, 3) := by decide +kernel
theorem dX6_markTaken_35 : decode cX6_markTaken 35 = .ok (.aload_n 0, 1) := by decide +kernel
theorem dX6_markTaken_36 : decode cX6_markTaken 36 = .ok (.iload_n 1, 1) := by decide +kernel
theorem dX6_markTaken_37 : decode cX6_markTaken 37 = .ok (.invokevirtual 42, 3) := by decide +kernel
theorem dX6_markTaken_40 : decode cX6_markTaken 40 = .ok (.ifCond .eq 8, 3) := by decide +kernel
theorem dX6_markTaken_43 : decode cX6_markTaken 43 = .ok (.aload_n 0, 1) := by decide +kernel
theorem dX6_markTaken_44 : decode cX6_markTaken 44 = .ok (.iload_n 1, 1) := by decide +kernel
theorem dX6_markTaken_45 : decode cX6_markTaken 45 = .ok (.invokevirtual 46, 3) := by decide +kernel
theorem dX6_markTaken_48 : decode cX6_markTaken 48 = .ok (.iinc 1 1, 3) := by decide +kernel
theorem dX6_markTaken_51 : decode cX6_markTaken 51 = .ok (.goto (-27), 3) := by decide +kernel
theorem dX6_markTaken_54 : decode cX6_markTaken 54 = .ok (.return_, 1) := by decide +kernel
theorem dX6_markTakenBy_0 : decode cX6_markTakenBy 0 = .ok (.aload_n 0, 1) := by decide +kernel
theorem dX6_markTakenBy_1 : decode cX6_markTakenBy 1 = .ok (.iload_n 1, 1) := by decide +kernel
theorem dX6_markTakenBy_2 : decode cX6_markTakenBy 2 = .ok (.invokevirtual 50, 3) := by decide +kernel
theorem dX6_markTakenBy_5 : decode cX6_markTakenBy 5 = .ok (.istore_n 2, 1) := by decide +kernel
theorem dX6_markTakenBy_6 : decode cX6_markTakenBy 6 = .ok (.iload_n 2, 1) := by decide +kernel
theorem dX6_markTakenBy_7 : decode cX6_markTakenBy 7 = .ok (.aload_n 0, 1) := by decide +kernel
theorem dX6_markTakenBy_8 : decode cX6_markTakenBy 8 = .ok (.getfield 15, 3) := by decide +kernel
theorem dX6_markTakenBy_11 : decode cX6_markTakenBy 11 = .ok (.iload_n 1, 1) := by decide +kernel
theorem dX6_markTakenBy_12 : decode cX6_markTakenBy 12 = .ok (.invokevirtual 19, 3) := by decide +kernel
theorem dX6_markTakenBy_15 : decode cX6_markTakenBy 15 = .ok (.iadd, 1) := by decide +kernel
theorem dX6_markTakenBy_16 : decode cX6_markTakenBy 16 = .ok (.istore_n 3, 1) := by decide +kernel
theorem dX6_markTakenBy_17 : decode cX6_markTakenBy 17 = .ok (.iload_n 2, 1) := by decide +kernel
theorem dX6_markTakenBy_18 : decode cX6_markTakenBy 18 = .ok (.istore 4, 2) := by decide +kernel
theorem dX6_markTakenBy_20 : decode cX6_markTakenBy 20 = .ok (.iload 4, 2) := by decide +kernel
theorem dX6_markTakenBy_22 : decode cX6_markTakenBy 22 = .ok (.ifCond .lt 31, 3) := by decide +kernel
theorem dX6_markTakenBy_25 : decode cX6_markTakenBy 25 = .ok (.iload 4, 2) := by decide +kernel
theorem dX6_markTakenBy_27 : decode cX6_markTakenBy 27 = .ok (.iload_n 3, 1) := by decide +kernel
theorem dX6_markTakenBy_28 : decode cX6_markTakenBy 28 = .ok (.if_icmp .ge 25, 3) := by decide +kernel
theorem dX6_markTakenBy_31 : decode cX6_markTakenBy 31 = .ok (.iload 4, 2) := by decide +kernel
theorem dX6_markTakenBy_33 : decode cX6_markTakenBy 33 = .ok (.sipush 160, 3) := by decide +kernel
theorem dX6_markTakenBy_36 : decode cX6_markTakenBy 36 = .ok (.if_icmp .ge 17, 3) := by decide +kernel
theorem dX6_markTakenBy_39 : decode cX6_markTakenBy 39 = .ok (.aload_n 0, 1) := by decide +kernel
theorem dX6_markTakenBy_40 : decode cX6_markTakenBy 40 = .ok (.getfield 9, 3) := by decide +kernel
theorem dX6_markTakenBy_43 : decode cX6_markTakenBy 43 = .ok (.iload 4, 2) := by decide +kernel
theorem dX6_markTakenBy_45 : decode cX6_markTakenBy 45 = .ok (.iconst 1, 1) := by decide +kernel
theorem dX6_markTakenBy_46 : decode cX6_markTakenBy 46 = .ok (.bastore, 1) := by decide +kernel
theorem dX6_markTakenBy_47 : decode cX6_markTakenBy 47 = .ok (.iinc 4 1, 3) := by decide +kernel
theorem dX6_markTakenBy_50 : decode cX6_markTakenBy 50 = .ok (.goto (-30), 3) := by decide +kernel
theorem dX6_markTakenBy_53 : decode cX6_markTakenBy 53 = .ok (.return_, 1) := by decide +kernel
theorem dX7_init_0 : decode cX7_init 0 = .ok (.aload_n 0, 1) := by decide +kernel
theorem dX7_init_1 : decode cX7_init 1 = .ok (.invokespecial 3, 3) := by decide +kernel
theorem dX7_init_4 : decode cX7_init 4 = .ok (.aload_n 0, 1) := by decide +kernel
theorem dX7_init_5 : decode cX7_init 5 = .ok (.bipush 80, 2) := by decide +kernel
theorem dX7_init_7 : decode cX7_init 7 = .ok (.newarray .boolean, 2) := by decide +kernel
theorem dX7_init_9 : decode cX7_init 9 = .ok (.putfield 9, 3) := by decide +kernel
theorem dX7_init_12 : decode cX7_init 12 = .ok (.aload_n 0, 1) := by decide +kernel
theorem dX7_init_13 : decode cX7_init 13 = .ok (.bipush 80, 2) := by decide +kernel
theorem dX7_init_15 : decode cX7_init 15 = .ok (.newarray .int, 2) := by decide +kernel
theorem dX7_init_17 : decode cX7_init 17 = .ok (.putfield 15, 3) := by decide +kernel
theorem dX7_init_20 : decode cX7_init 20 = .ok (.aload_n 0, 1) := by decide +kernel
theorem dX7_init_21 : decode cX7_init 21 = .ok (.aload_n 1, 1) := by decide +kernel
theorem dX7_init_22 : decode cX7_init 22 = .ok (.putfield 19, 3) := by decide +kernel
theorem dX7_init_25 : decode cX7_init 25 = .ok (.aload_n 0, 1) := by decide +kernel
theorem dX7_init_26 : decode cX7_init 26 = .ok (.bipush 64, 2) := by decide +kernel
theorem dX7_init_28 : decode cX7_init 28 = .ok (.putfield 23, 3) := by decide +kernel
theorem dX7_init_31 : decode cX7_init 31 = .ok (.return_, 1) := by decide +kernel
theorem dX7_resetCounters_0 : decode cX7_resetCounters 0 = .ok (.return_, 1) := by decide +kernel
theorem dX7_learnNaming_0 : decode cX7_learnNaming 0 = .ok (.return_, 1) := by decide +kernel
theorem dX7_startAnew_0 : decode cX7_startAnew 0 = .ok (.aload_n 0, 1) := by decide +kernel
theorem dX7_startAnew_1 : decode cX7_startAnew 1 = .ok (.iload_n 1, 1) := by decide +kernel
theorem dX7_startAnew_2 : decode cX7_startAnew 2 = .ok (.putfield 23, 3) := by decide +kernel
theorem dX7_startAnew_5 : decode cX7_startAnew 5 = .ok (.aload_n 0, 1) := by decide +kernel
theorem dX7_startAnew_6 : decode cX7_startAnew 6 = .ok (.iconst 0, 1) := by decide +kernel
theorem dX7_startAnew_7 : decode cX7_startAnew 7 = .ok (.putfield 27, 3) := by decide +kernel
theorem dX7_startAnew_10 : decode cX7_startAnew 10 = .ok (.aload_n 0, 1) := by decide +kernel
theorem dX7_startAnew_11 : decode cX7_startAnew 11 = .ok (.iconst 0, 1) := by decide +kernel
theorem dX7_startAnew_12 : decode cX7_startAnew 12 = .ok (.putfield 30, 3) := by decide +kernel
theorem dX7_startAnew_15 : decode cX7_startAnew 15 = .ok (.aload_n 0, 1) := by decide +kernel
theorem dX7_startAnew_16 : decode cX7_startAnew 16 = .ok (.iconst 0, 1) := by decide +kernel
theorem dX7_startAnew_17 : decode cX7_startAnew 17 = .ok (.putfield 33, 3) := by decide +kernel
theorem dX7_startAnew_20 : decode cX7_startAnew 20 = .ok (.aload_n 0, 1) := by decide +kernel
theorem dX7_startAnew_21 : decode cX7_startAnew 21 = .ok (.iconst 0, 1) := by decide +kernel
theorem dX7_startAnew_22 : decode cX7_startAnew 22 = .ok (.putfield 36, 3) := by decide +kernel
theorem dX7_startAnew_25 : decode cX7_startAnew 25 = .ok (.aload_n 0, 1) := by decide +kernel
theorem dX7_startAnew_26 : decode cX7_startAnew 26 = .ok (.iconst 0, 1) := by decide +kernel
theorem dX7_startAnew_27 : decode cX7_startAnew 27 = .ok (.putfield 40, 3) := by decide +kernel
theorem dX7_startAnew_30 : decode cX7_startAnew 30 = .ok (.aload_n 0, 1) := by decide +kernel
theorem dX7_startAnew_31 : decode cX7_startAnew 31 = .ok (.invokevirtual 43, 3) := by decide +kernel
theorem dX7_startAnew_34 : decode cX7_startAnew 34 = .ok (.aload_n 0, 1) := by decide +kernel
theorem dX7_startAnew_35 : decode cX7_startAnew 35 = .ok (.invokevirtual 46, 3) := by decide +kernel
theorem dX7_startAnew_38 : decode cX7_startAnew 38 = .ok (.aload_n 0, 1) := by decide +kernel
theorem dX7_startAnew_39 : decode cX7_startAnew 39 = .ok (.invokevirtual 49, 3) := by decide +kernel
theorem dX7_startAnew_42 : decode cX7_startAnew 42 = .ok (.return_, 1) := by decide +kernel
theorem dX7_cleanUp_0 : decode cX7_cleanUp 0 = .ok (.aload_n 0, 1) := by decide +kernel
theorem dX7_cleanUp_1 : decode cX7_cleanUp 1 = .ok (.getfield 36, 3) := by decide +kernel
theorem dX7_cleanUp_4 : decode cX7_cleanUp 4 = .ok (.ifCond .eq 7, 3) := by decide +kernel
theorem dX7_cleanUp_7 : decode cX7_cleanUp 7 = .ok (.iconst 0, 1) := by decide +kernel
theorem dX7_cleanUp_8 : decode cX7_cleanUp 8 = .ok (.goto 7, 3) := by decide +kernel
theorem dX7_cleanUp_11 : decode cX7_cleanUp 11 = .ok (.aload_n 0, 1) := by decide +kernel
theorem dX7_cleanUp_12 : decode cX7_cleanUp 12 = .ok (.invokevirtual 52, 3) := by decide +kernel
theorem dX7_cleanUp_15 : decode cX7_cleanUp 15 = .ok (.ireturn, 1) := by decide +kernel
theorem dX7_openPause_0 : decode cX7_openPause 0 = .ok (.aload_n 0, 1) := by decide +kernel
theorem dX7_openPause_1 : decode cX7_openPause 1 = .ok (.aload_n 0, 1) := by decide +kernel
theorem dX7_openPause_2 : decode cX7_openPause 2 = .ok (.getfield 27, 3) := by decide +kernel
theorem dX7_openPause_5 : decode cX7_openPause 5 = .ok (.putfield 40, 3) := by decide +kernel
theorem dX7_openPause_8 : decode cX7_openPause 8 = .ok (.return_, 1) := by decide +kernel
theorem dX7_closePause_0 : decode cX7_closePause 0 = .ok (.aload_n 0, 1) := by decide +kernel
theorem dX7_closePause_1 : decode cX7_closePause 1 = .ok (.aload_n 0, 1) := by decide +kernel
theorem dX7_closePause_2 : decode cX7_closePause 2 = .ok (.getfield 30, 3) := by decide +kernel
theorem dX7_closePause_5 : decode cX7_closePause 5 = .ok (.aload_n 0, 1) := by decide +kernel
theorem dX7_closePause_6 : decode cX7_closePause 6 = .ok (.getfield 27, 3) := by decide +kernel
theorem dX7_closePause_9 : decode cX7_closePause 9 = .ok (.aload_n 0, 1) := by decide +kernel
theorem dX7_closePause_10 : decode cX7_closePause 10 = .ok (.getfield 40, 3) := by decide +kernel
theorem dX7_closePause_13 : decode cX7_closePause 13 = .ok (.isub, 1) := by decide +kernel
theorem dX7_closePause_14 : decode cX7_closePause 14 = .ok (.invokestatic 56, 3) := by decide +kernel
theorem dX7_closePause_17 : decode cX7_closePause 17 = .ok (.putfield 30, 3) := by decide +kernel
theorem dX7_closePause_20 : decode cX7_closePause 20 = .ok (.return_, 1) := by decide +kernel
theorem dX7_breakDown_0 : decode cX7_breakDown 0 = .ok (.aload_n 0, 1) := by decide +kernel
theorem dX7_breakDown_1 : decode cX7_breakDown 1 = .ok (.iconst 1, 1) := by decide +kernel
theorem dX7_breakDown_2 : decode cX7_breakDown 2 = .ok (.putfield 36, 3) := by decide +kernel
theorem dX7_breakDown_5 : decode cX7_breakDown 5 = .ok (.aload_n 0, 1) := by decide +kernel
theorem dX7_breakDown_6 : decode cX7_breakDown 6 = .ok (.invokevirtual 43, 3) := by decide +kernel
theorem dX7_breakDown_9 : decode cX7_breakDown 9 = .ok (.aload_n 0, 1) := by decide +kernel
theorem dX7_breakDown_10 : decode cX7_breakDown 10 = .ok (.invokevirtual 46, 3) := by decide +kernel
theorem dX7_breakDown_13 : decode cX7_breakDown 13 = .ok (.return_, 1) := by decide +kernel
theorem dX7_has_0 : decode cX7_has 0 = .ok (.iload_n 1, 1) := by decide +kernel
theorem dX7_has_1 : decode cX7_has 1 = .ok (.ifCond .lt 22, 3) := by decide +kernel
theorem dX7_has_4 : decode cX7_has 4 = .ok (.iload_n 1, 1) := by decide +kernel
theorem dX7_has_5 : decode cX7_has 5 = .ok (.bipush 80, 2) := by decide +kernel
theorem dX7_has_7 : decode cX7_has 7 = .ok (.if_icmp .ge 16, 3) := by decide +kernel
theorem dX7_has_10 : decode cX7_has 10 = .ok (.aload_n 0, 1) := by decide +kernel
theorem dX7_has_11 : decode cX7_has 11 = .ok (.getfield 9, 3) := by decide +kernel
theorem dX7_has_14 : decode cX7_has 14 = .ok (.iload_n 1, 1) := by decide +kernel
theorem dX7_has_15 : decode cX7_has 15 = .ok (.baload, 1) := by decide +kernel
theorem dX7_has_16 : decode cX7_has 16 = .ok (.ifCond .eq 7, 3) := by decide +kernel
theorem dX7_has_19 : decode cX7_has 19 = .ok (.iconst 1, 1) := by decide +kernel
theorem dX7_has_20 : decode cX7_has 20 = .ok (.goto 4, 3) := by decide +kernel
theorem dX7_has_23 : decode cX7_has 23 = .ok (.iconst 0, 1) := by decide +kernel
theorem dX7_has_24 : decode cX7_has 24 = .ok (.ireturn, 1) := by decide +kernel
theorem dX7_placeOf_0 : decode cX7_placeOf 0 = .ok (.aload_n 0, 1) := by decide +kernel
theorem dX7_placeOf_1 : decode cX7_placeOf 1 = .ok (.iload_n 1, 1) := by decide +kernel
theorem dX7_placeOf_2 : decode cX7_placeOf 2 = .ok (.invokevirtual 62, 3) := by decide +kernel
theorem dX7_placeOf_5 : decode cX7_placeOf 5 = .ok (.ifCond .eq 12, 3) := by decide +kernel
theorem dX7_placeOf_8 : decode cX7_placeOf 8 = .ok (.aload_n 0, 1) := by decide +kernel
theorem dX7_placeOf_9 : decode cX7_placeOf 9 = .ok (.getfield 15, 3) := by decide +kernel
theorem dX7_placeOf_12 : decode cX7_placeOf 12 = .ok (.iload_n 1, 1) := by decide +kernel
theorem dX7_placeOf_13 : decode cX7_placeOf 13 = .ok (.iaload, 1) := by decide +kernel
theorem dX7_placeOf_14 : decode cX7_placeOf 14 = .ok (.goto 4, 3) := by decide +kernel
theorem dX7_placeOf_17 : decode cX7_placeOf 17 = .ok (.iconst (-1), 1) := by decide +kernel
theorem dX7_placeOf_18 : decode cX7_placeOf 18 = .ok (.ireturn, 1) := by decide +kernel
theorem dX7_put_0 : decode cX7_put 0 = .ok (.aload_n 0, 1) := by decide +kernel
theorem dX7_put_1 : decode cX7_put 1 = .ok (.getfield 19, 3) := by decide +kernel
theorem dX7_put_4 : decode cX7_put 4 = .ok (.iload_n 1, 1) := by decide +kernel
theorem dX7_put_5 : decode cX7_put 5 = .ok (.invokevirtual 66, 3) := by decide +kernel
theorem dX7_put_8 : decode cX7_put 8 = .ok (.ifCond .eq 17, 3) := by decide +kernel
theorem dX7_put_11 : decode cX7_put 11 = .ok (.aload_n 0, 1) := by decide +kernel
theorem dX7_put_12 : decode cX7_put 12 = .ok (.getfield 9, 3) := by decide +kernel
theorem dX7_put_15 : decode cX7_put 15 = .ok (.iload_n 1, 1) := by decide +kernel
theorem dX7_put_16 : decode cX7_put 16 = .ok (.iconst 1, 1) := by decide +kernel
theorem dX7_put_17 : decode cX7_put 17 = .ok (.bastore, 1) := by decide +kernel
theorem dX7_put_18 : decode cX7_put 18 = .ok (.aload_n 0, 1) := by decide +kernel
theorem dX7_put_19 : decode cX7_put 19 = .ok (.getfield 15, 3) := by decide +kernel
theorem dX7_put_22 : decode cX7_put 22 = .ok (.iload_n 1, 1) := by decide +kernel
theorem dX7_put_23 : decode cX7_put 23 = .ok (.iload_n 2, 1) := by decide +kernel
theorem dX7_put_24 : decode cX7_put 24 = .ok (.iastore, 1) := by decide +kernel
theorem dX7_put_25 : decode cX7_put 25 = .ok (.return_, 1) := by decide +kernel
theorem dX7_letGo_0 : decode cX7_letGo 0 = .ok (.iload_n 1, 1) := by decide +kernel
theorem dX7_letGo_1 : decode cX7_letGo 1 = .ok (.ifCond .lt 16, 3) := by decide +kernel
theorem dX7_letGo_4 : decode cX7_letGo 4 = .ok (.iload_n 1, 1) := by decide +kernel
theorem dX7_letGo_5 : decode cX7_letGo 5 = .ok (.bipush 80, 2) := by decide +kernel
theorem dX7_letGo_7 : decode cX7_letGo 7 = .ok (.if_icmp .ge 10, 3) := by decide +kernel
theorem dX7_letGo_10 : decode cX7_letGo 10 = .ok (.aload_n 0, 1) := by decide +kernel
theorem dX7_letGo_11 : decode cX7_letGo 11 = .ok (.getfield 9, 3) := by decide +kernel
theorem dX7_letGo_14 : decode cX7_letGo 14 = .ok (.iload_n 1, 1) := by decide +kernel
theorem dX7_letGo_15 : decode cX7_letGo 15 = .ok (.iconst 0, 1) := by decide +kernel
theorem dX7_letGo_16 : decode cX7_letGo 16 = .ok (.bastore, 1) := by decide +kernel
theorem dX7_letGo_17 : decode cX7_letGo 17 = .ok (.return_, 1) := by decide +kernel
theorem dX7_letAllGo_0 : decode cX7_letAllGo 0 = .ok (.iconst 0, 1) := by decide +kernel
theorem dX7_letAllGo_1 : decode cX7_letAllGo 1 = .ok (.istore_n 1, 1) := by decide +kernel
theorem dX7_letAllGo_2 : decode cX7_letAllGo 2 = .ok (.iload_n 1, 1) := by decide +kernel
theorem dX7_letAllGo_3 : decode cX7_letAllGo 3 = .ok (.bipush 80, 2) := by decide +kernel
theorem dX7_letAllGo_5 : decode cX7_letAllGo 5 = .ok (.if_icmp .ge 16, 3) := by decide +kernel
theorem dX7_letAllGo_8 : decode cX7_letAllGo 8 = .ok (.aload_n 0, 1) := by decide +kernel
theorem dX7_letAllGo_9 : decode cX7_letAllGo 9 = .ok (.getfield 9, 3) := by decide +kernel
theorem dX7_letAllGo_12 : decode cX7_letAllGo 12 = .ok (.iload_n 1, 1) := by decide +kernel
theorem dX7_letAllGo_13 : decode cX7_letAllGo 13 = .ok (.iconst 0, 1) := by decide +kernel
theorem dX7_letAllGo_14 : decode cX7_letAllGo 14 = .ok (.bastore, 1) := by decide +kernel
theorem dX7_letAllGo_15 : decode cX7_letAllGo 15 = .ok (.iinc 1 1, 3) := by decide +kernel
theorem dX7_letAllGo_18 : decode cX7_letAllGo 18 = .ok (.goto (-16), 3) := by decide +kernel
theorem dX7_letAllGo_21 : decode cX7_letAllGo 21 = .ok (.return_, 1) := by decide +kernel
theorem dX7_countHad_0 : decode cX7_countHad 0 = .ok (.iconst 0, 1) := by decide +kernel
theorem dX7_countHad_1 : decode cX7_countHad 1 = .ok (.istore_n 1, 1) := by decide +kernel
theorem dX7_countHad_2 : decode cX7_countHad 2 = .ok (.iconst 0, 1) := by decide +kernel
theorem dX7_countHad_3 : decode cX7_countHad 3 = .ok (.istore_n 2, 1) := by decide +kernel
theorem dX7_countHad_4 : decode cX7_countHad 4 = .ok (.iload_n 2, 1) := by decide +kernel
theorem dX7_countHad_5 : decode cX7_countHad 5 = .ok (.aload_n 0, 1) := by decide +kernel
theorem dX7_countHad_6 : decode cX7_countHad 6 = .ok (.getfield 19, 3) := by decide +kernel
theorem dX7_countHad_9 : decode cX7_countHad 9 = .ok (.getfield 71, 3) := by decide +kernel
theorem dX7_countHad_12 : decode cX7_countHad 12 = .ok (.if_icmp .ge 25, 3) := by decide +kernel
theorem dX7_countHad_15 : decode cX7_countHad 15 = .ok (.iload_n 1, 1) := by decide +kernel
theorem dX7_countHad_16 : decode cX7_countHad 16 = .ok (.aload_n 0, 1) := by decide +kernel
theorem dX7_countHad_17 : decode cX7_countHad 17 = .ok (.iload_n 2, 1) := by decide +kernel
theorem dX7_countHad_18 : decode cX7_countHad 18 = .ok (.invokevirtual 62, 3) := by decide +kernel
theorem dX7_countHad_21 : decode cX7_countHad 21 = .ok (.ifCond .eq 7, 3) := by decide +kernel
theorem dX7_countHad_24 : decode cX7_countHad 24 = .ok (.iconst 1, 1) := by decide +kernel
theorem dX7_countHad_25 : decode cX7_countHad 25 = .ok (.goto 4, 3) := by decide +kernel
theorem dX7_countHad_28 : decode cX7_countHad 28 = .ok (.iconst 0, 1) := by decide +kernel
theorem dX7_countHad_29 : decode cX7_countHad 29 = .ok (.iadd, 1) := by decide +kernel
theorem dX7_countHad_30 : decode cX7_countHad 30 = .ok (.istore_n 1, 1) := by decide +kernel
theorem dX7_countHad_31 : decode cX7_countHad 31 = .ok (.iinc 2 1, 3) := by decide +kernel
theorem dX7_countHad_34 : decode cX7_countHad 34 = .ok (.goto (-30), 3) := by decide +kernel
theorem dX7_countHad_37 : decode cX7_countHad 37 = .ok (.iload_n 1, 1) := by decide +kernel
theorem dX7_countHad_38 : decode cX7_countHad 38 = .ok (.ireturn, 1) := by decide +kernel
theorem dX7_wordsHad_0 : decode cX7_wordsHad 0 = .ok (.iconst 0, 1) := by decide +kernel
theorem dX7_wordsHad_1 : decode cX7_wordsHad 1 = .ok (.istore_n 1, 1) := by decide +kernel
theorem dX7_wordsHad_2 : decode cX7_wordsHad 2 = .ok (.iconst 0, 1) := by decide +kernel
theorem dX7_wordsHad_3 : decode cX7_wordsHad 3 = .ok (.istore_n 2, 1) := by decide +kernel
theorem dX7_wordsHad_4 : decode cX7_wordsHad 4 = .ok (.iload_n 2, 1) := by decide +kernel
theorem dX7_wordsHad_5 : decode cX7_wordsHad 5 = .ok (.aload_n 0, 1) := by decide +kernel
theorem dX7_wordsHad_6 : decode cX7_wordsHad 6 = .ok (.getfield 19, 3) := by decide +kernel
theorem dX7_wordsHad_9 : decode cX7_wordsHad 9 = .ok (.getfield 71, 3) := by decide +kernel
theorem dX7_wordsHad_12 : decode cX7_wordsHad 12 = .ok (.if_icmp .ge 32, 3) := by decide +kernel
theorem dX7_wordsHad_15 : decode cX7_wordsHad 15 = .ok (.iload_n 1, 1) := by decide +kernel
theorem dX7_wordsHad_16 : decode cX7_wordsHad 16 = .ok (.aload_n 0, 1) := by decide +kernel
theorem dX7_wordsHad_17 : decode cX7_wordsHad 17 = .ok (.iload_n 2, 1) := by decide +kernel
theorem dX7_wordsHad_18 : decode cX7_wordsHad 18 = .ok (.invokevirtual 62, 3) := by decide +kernel
theorem dX7_wordsHad_21 : decode cX7_wordsHad 21 = .ok (.ifCond .eq 14, 3) := by decide +kernel
theorem dX7_wordsHad_24 : decode cX7_wordsHad 24 = .ok (.aload_n 0, 1) := by decide +kernel
theorem dX7_wordsHad_25 : decode cX7_wordsHad 25 = .ok (.getfield 19, 3) := by decide +kernel
theorem dX7_wordsHad_28 : decode cX7_wordsHad 28 = .ok (.iload_n 2, 1) := by decide +kernel
theorem dX7_wordsHad_29 : decode cX7_wordsHad 29 = .ok (.invokevirtual 74, 3) := by decide +kernel
theorem dX7_wordsHad_32 : decode cX7_wordsHad 32 = .ok (.goto 4, 3) := by decide +kernel
theorem dX7_wordsHad_35 : decode cX7_wordsHad 35 = .ok (.iconst 0, 1) := by decide +kernel
theorem dX7_wordsHad_36 : decode cX7_wordsHad 36 = .ok (.iadd, 1) := by decide +kernel
theorem dX7_wordsHad_37 : decode cX7_wordsHad 37 = .ok (.istore_n 1, 1) := by decide +kernel
theorem dX7_wordsHad_38 : decode cX7_wordsHad 38 = .ok (.iinc 2 1, 3) := by decide +kernel
theorem dX7_wordsHad_41 : decode cX7_wordsHad 41 = .ok (.goto (-37), 3) := by decide +kernel
theorem dX7_wordsHad_44 : decode cX7_wordsHad 44 = .ok (.iload_n 1, 1) := by decide +kernel
theorem dX7_wordsHad_45 : decode cX7_wordsHad 45 = .ok (.ireturn, 1) := by decide +kernel
theorem dX7_countUnreached_0 : decode cX7_countUnreached 0 = .ok (.iconst 0, 1) := by decide +kernel
theorem dX7_countUnreached_1 : decode cX7_countUnreached 1 = .ok (.istore_n 1, 1) := by decide +kernel
theorem dX7_countUnreached_2 : decode cX7_countUnreached 2 = .ok (.iconst 0, 1) := by decide +kernel
theorem dX7_countUnreached_3 : decode cX7_countUnreached 3 = .ok (.istore_n 2, 1) := by decide +kernel
theorem dX7_countUnreached_4 : decode cX7_countUnreached 4 = .ok (.iload_n 2, 1) := by decide +kernel
theorem dX7_countUnreached_5 : decode cX7_countUnreached 5 = .ok (.aload_n 0, 1) := by decide +kernel
theorem dX7_countUnreached_6 : decode cX7_countUnreached 6 = .ok (.getfield 19, 3) := by decide +kernel
theorem dX7_countUnreached_9 : decode cX7_countUnreached 9 = .ok (.getfield 71, 3) := by decide +kernel
theorem dX7_countUnreached_12 : decode cX7_countUnreached 12 = .ok (.if_icmp .ge 36, 3) := by decide +kernel
theorem dX7_countUnreached_15 : decode cX7_countUnreached 15 = .ok (.iload_n 1, 1) := by decide +kernel
theorem dX7_countUnreached_16 : decode cX7_countUnreached 16 = .ok (.aload_n 0, 1) := by decide +kernel
theorem dX7_countUnreached_17 : decode cX7_countUnreached 17 = .ok (.iload_n 2, 1) := by decide +kernel
theorem dX7_countUnreached_18 : decode cX7_countUnreached 18 = .ok (.invokevirtual 62, 3) := by decide +kernel
theorem dX7_countUnreached_21 : decode cX7_countUnreached 21 = .ok (.ifCond .eq 18, 3) := by decide +kernel
theorem dX7_countUnreached_24 : decode cX7_countUnreached 24 = .ok (.aload_n 0, 1) := by decide +kernel
theorem dX7_countUnreached_25 : decode cX7_countUnreached 25 = .ok (.getfield 19, 3) := by decide +kernel
theorem dX7_countUnreached_28 : decode cX7_countUnreached 28 = .ok (.iload_n 2, 1) := by decide +kernel
theorem dX7_countUnreached_29 : decode cX7_countUnreached 29 = .ok (.invokevirtual 78, 3) := by decide +kernel
theorem dX7_countUnreached_32 : decode cX7_countUnreached 32 = .ok (.ifCond .ne 7, 3) := by decide +kernel
theorem dX7_countUnreached_35 : decode cX7_countUnreached 35 = .ok (.iconst 1, 1) := by decide +kernel
theorem dX7_countUnreached_36 : decode cX7_countUnreached 36 = .ok (.goto 4, 3) := by decide +kernel
theorem dX7_countUnreached_39 : decode cX7_countUnreached 39 = .ok (.iconst 0, 1) := by decide +kernel
theorem dX7_countUnreached_40 : decode cX7_countUnreached 40 = .ok (.iadd, 1) := by decide +kernel
theorem dX7_countUnreached_41 : decode cX7_countUnreached 41 = .ok (.istore_n 1, 1) := by decide +kernel
theorem dX7_countUnreached_42 : decode cX7_countUnreached 42 = .ok (.iinc 2 1, 3) := by decide +kernel
theorem dX7_countUnreached_45 : decode cX7_countUnreached 45 = .ok (.goto (-41), 3) := by decide +kernel
theorem dX7_countUnreached_48 : decode cX7_countUnreached 48 = .ok (.iload_n 1, 1) := by decide +kernel
theorem dX7_countUnreached_49 : decode cX7_countUnreached 49 = .ok (.ireturn, 1) := by decide +kernel
theorem dX7_wordsReached_0 : decode cX7_wordsReached 0 = .ok (.iconst 0, 1) := by decide +kernel
theorem dX7_wordsReached_1 : decode cX7_wordsReached 1 = .ok (.istore_n 1, 1) := by decide +kernel
theorem dX7_wordsReached_2 : decode cX7_wordsReached 2 = .ok (.iconst 0, 1) := by decide +kernel
theorem dX7_wordsReached_3 : decode cX7_wordsReached 3 = .ok (.istore_n 2, 1) := by decide +kernel
theorem dX7_wordsReached_4 : decode cX7_wordsReached 4 = .ok (.iload_n 2, 1) := by decide +kernel
theorem dX7_wordsReached_5 : decode cX7_wordsReached 5 = .ok (.aload_n 0, 1) := by decide +kernel
theorem dX7_wordsReached_6 : decode cX7_wordsReached 6 = .ok (.getfield 19, 3) := by decide +kernel
theorem dX7_wordsReached_9 : decode cX7_wordsReached 9 = .ok (.getfield 71, 3) := by decide +kernel
theorem dX7_wordsReached_12 : decode cX7_wordsReached 12 = .ok (.if_icmp .ge 43, 3) := by decide +kernel
theorem dX7_wordsReached_15 : decode cX7_wordsReached 15 = .ok (.iload_n 1, 1) := by decide +kernel
theorem dX7_wordsReached_16 : decode cX7_wordsReached 16 = .ok (.aload_n 0, 1) := by decide +kernel
theorem dX7_wordsReached_17 : decode cX7_wordsReached 17 = .ok (.iload_n 2, 1) := by decide +kernel
theorem dX7_wordsReached_18 : decode cX7_wordsReached 18 = .ok (.invokevirtual 62, 3) := by decide +kernel
theorem dX7_wordsReached_21 : decode cX7_wordsReached 21 = .ok (.ifCond .eq 25, 3) := by decide +kernel
theorem dX7_wordsReached_24 : decode cX7_wordsReached 24 = .ok (.aload_n 0, 1) := by decide +kernel
theorem dX7_wordsReached_25 : decode cX7_wordsReached 25 = .ok (.getfield 19, 3) := by decide +kernel
theorem dX7_wordsReached_28 : decode cX7_wordsReached 28 = .ok (.iload_n 2, 1) := by decide +kernel
theorem dX7_wordsReached_29 : decode cX7_wordsReached 29 = .ok (.invokevirtual 78, 3) := by decide +kernel
theorem dX7_wordsReached_32 : decode cX7_wordsReached 32 = .ok (.ifCond .eq 14, 3) := by decide +kernel
theorem dX7_wordsReached_35 : decode cX7_wordsReached 35 = .ok (.aload_n 0, 1) := by decide +kernel
theorem dX7_wordsReached_36 : decode cX7_wordsReached 36 = .ok (.getfield 19, 3) := by decide +kernel
theorem dX7_wordsReached_39 : decode cX7_wordsReached 39 = .ok (.iload_n 2, 1) := by decide +kernel
theorem dX7_wordsReached_40 : decode cX7_wordsReached 40 = .ok (.invokevirtual 74, 3) := by decide +kernel
theorem dX7_wordsReached_43 : decode cX7_wordsReached 43 = .ok (.goto 4, 3) := by decide +kernel
theorem dX7_wordsReached_46 : decode cX7_wordsReached 46 = .ok (.iconst 0, 1) := by decide +kernel
theorem dX7_wordsReached_47 : decode cX7_wordsReached 47 = .ok (.iadd, 1) := by decide +kernel
theorem dX7_wordsReached_48 : decode cX7_wordsReached 48 = .ok (.istore_n 1, 1) := by decide +kernel
theorem dX7_wordsReached_49 : decode cX7_wordsReached 49 = .ok (.iinc 2 1, 3) := by decide +kernel
theorem dX7_wordsReached_52 : decode cX7_wordsReached 52 = .ok (.goto (-48), 3) := by decide +kernel
theorem dX7_wordsReached_55 : decode cX7_wordsReached 55 = .ok (.iload_n 1, 1) := by decide +kernel
theorem dX7_wordsReached_56 : decode cX7_wordsReached 56 = .ok (.ireturn, 1) := by decide +kernel
theorem dX8_init_0 : decode cX8_init 0 = .ok (.aload_n 0, 1) := by decide +kernel
theorem dX8_init_1 : decode cX8_init 1 = .ok (.invokespecial 1, 3) := by decide +kernel
theorem dX8_init_4 : decode cX8_init 4 = .ok (.new 7, 3) := by decide +kernel
theorem dX8_init_7 : decode cX8_init 7 = .ok (.dup, 1) := by decide +kernel
theorem dX8_init_8 : decode cX8_init 8 = .ok (.invokespecial 9, 3) := by decide +kernel
theorem dX8_init_11 : decode cX8_init 11 = .ok (.astore_n 1, 1) := by decide +kernel
theorem dX8_init_12 : decode cX8_init 12 = .ok (.new 10, 3) := by decide +kernel
theorem dX8_init_15 : decode cX8_init 15 = .ok (.dup, 1) := by decide +kernel
theorem dX8_init_16 : decode cX8_init 16 = .ok (.aload_n 1, 1) := by decide +kernel
theorem dX8_init_17 : decode cX8_init 17 = .ok (.invokespecial 12, 3) := by decide +kernel
theorem dX8_init_20 : decode cX8_init 20 = .ok (.astore_n 2, 1) := by decide +kernel
theorem dX8_init_21 : decode cX8_init 21 = .ok (.new 15, 3) := by decide +kernel
theorem dX8_init_24 : decode cX8_init 24 = .ok (.dup, 1) := by decide +kernel
theorem dX8_init_25 : decode cX8_init 25 = .ok (.aload_n 1, 1) := by decide +kernel
theorem dX8_init_26 : decode cX8_init 26 = .ok (.invokespecial 17, 3) := by decide +kernel
theorem dX8_init_29 : decode cX8_init 29 = .ok (.astore_n 3, 1) := by decide +kernel
theorem dX8_init_30 : decode cX8_init 30 = .ok (.new 18, 3) := by decide +kernel
theorem dX8_init_33 : decode cX8_init 33 = .ok (.dup, 1) := by decide +kernel
theorem dX8_init_34 : decode cX8_init 34 = .ok (.aload_n 1, 1) := by decide +kernel
theorem dX8_init_35 : decode cX8_init 35 = .ok (.invokespecial 20, 3) := by decide +kernel
theorem dX8_init_38 : decode cX8_init 38 = .ok (.astore 4, 2) := by decide +kernel
theorem dX8_init_40 : decode cX8_init 40 = .ok (.iconst 4, 1) := by decide +kernel
theorem dX8_init_41 : decode cX8_init 41 = .ok (.anewarray 23, 3) := by decide +kernel
theorem dX8_init_44 : decode cX8_init 44 = .ok (.astore 5, 2) := by decide +kernel
theorem dX8_init_46 : decode cX8_init 46 = .ok (.aload 5, 2) := by decide +kernel
theorem dX8_init_48 : decode cX8_init 48 = .ok (.iconst 0, 1) := by decide +kernel
theorem dX8_init_49 : decode cX8_init 49 = .ok (.new 25, 3) := by decide +kernel
theorem dX8_init_52 : decode cX8_init 52 = .ok (.dup, 1) := by decide +kernel
theorem dX8_init_53 : decode cX8_init 53 = .ok (.aload_n 1, 1) := by decide +kernel
theorem dX8_init_54 : decode cX8_init 54 = .ok (.invokespecial 27, 3) := by decide +kernel
theorem dX8_init_57 : decode cX8_init 57 = .ok (.aastore, 1) := by decide +kernel
theorem dX8_init_58 : decode cX8_init 58 = .ok (.aload 5, 2) := by decide +kernel
theorem dX8_init_60 : decode cX8_init 60 = .ok (.iconst 1, 1) := by decide +kernel
theorem dX8_init_61 : decode cX8_init 61 = .ok (.aload_n 2, 1) := by decide +kernel
theorem dX8_init_62 : decode cX8_init 62 = .ok (.aastore, 1) := by decide +kernel
theorem dX8_init_63 : decode cX8_init 63 = .ok (.aload 5, 2) := by decide +kernel
theorem dX8_init_65 : decode cX8_init 65 = .ok (.iconst 2, 1) := by decide +kernel
theorem dX8_init_66 : decode cX8_init 66 = .ok (.aload_n 3, 1) := by decide +kernel
theorem dX8_init_67 : decode cX8_init 67 = .ok (.aastore, 1) := by decide +kernel
theorem dX8_init_68 : decode cX8_init 68 = .ok (.aload 5, 2) := by decide +kernel
theorem dX8_init_70 : decode cX8_init 70 = .ok (.iconst 3, 1) := by decide +kernel
theorem dX8_init_71 : decode cX8_init 71 = .ok (.aload 4, 2) := by decide +kernel
theorem dX8_init_73 : decode cX8_init 73 = .ok (.aastore, 1) := by decide +kernel
theorem dX8_init_74 : decode cX8_init 74 = .ok (.aload_n 0, 1) := by decide +kernel
theorem dX8_init_75 : decode cX8_init 75 = .ok (.aload_n 1, 1) := by decide +kernel
theorem dX8_init_76 : decode cX8_init 76 = .ok (.putfield 28, 3) := by decide +kernel
theorem dX8_init_79 : decode cX8_init 79 = .ok (.aload_n 0, 1) := by decide +kernel
theorem dX8_init_80 : decode cX8_init 80 = .ok (.aload_n 2, 1) := by decide +kernel
theorem dX8_init_81 : decode cX8_init 81 = .ok (.putfield 32, 3) := by decide +kernel
theorem dX8_init_84 : decode cX8_init 84 = .ok (.aload_n 0, 1) := by decide +kernel
theorem dX8_init_85 : decode cX8_init 85 = .ok (.aload_n 3, 1) := by decide +kernel
theorem dX8_init_86 : decode cX8_init 86 = .ok (.putfield 36, 3) := by decide +kernel
theorem dX8_init_89 : decode cX8_init 89 = .ok (.aload_n 0, 1) := by decide +kernel
theorem dX8_init_90 : decode cX8_init 90 = .ok (.aload 4, 2) := by decide +kernel
theorem dX8_init_92 : decode cX8_init 92 = .ok (.putfield 40, 3) := by decide +kernel
theorem dX8_init_95 : decode cX8_init 95 = .ok (.aload_n 0, 1) := by decide +kernel
theorem dX8_init_96 : decode cX8_init 96 = .ok (.aload 5, 2) := by decide +kernel
theorem dX8_init_98 : decode cX8_init 98 = .ok (.putfield 44, 3) := by decide +kernel
theorem dX8_init_101 : decode cX8_init 101 = .ok (.aload_n 0, 1) := by decide +kernel
theorem dX8_init_102 : decode cX8_init 102 = .ok (.bipush 64, 2) := by decide +kernel
theorem dX8_init_104 : decode cX8_init 104 = .ok (.putfield 48, 3) := by decide +kernel
theorem dX8_init_107 : decode cX8_init 107 = .ok (.return_, 1) := by decide +kernel
theorem dX8_begin_0 : decode cX8_begin 0 = .ok (.iload_n 1, 1) := by decide +kernel
theorem dX8_begin_1 : decode cX8_begin 1 = .ok (.bipush 40, 2) := by decide +kernel
theorem dX8_begin_3 : decode cX8_begin 3 = .ok (.if_icmp .lt 10, 3) := by decide +kernel
theorem dX8_begin_6 : decode cX8_begin 6 = .ok (.iload_n 1, 1) := by decide +kernel
theorem dX8_begin_7 : decode cX8_begin 7 = .ok (.sipush 160, 3) := by decide +kernel
theorem dX8_begin_10 : decode cX8_begin 10 = .ok (.if_icmp .le 13, 3) := by decide +kernel
theorem dX8_begin_13 : decode cX8_begin 13 = .ok (.new 52, 3) := by decide +kernel
theorem dX8_begin_16 : decode cX8_begin 16 = .ok (.dup, 1) := by decide +kernel
theorem dX8_begin_17 : decode cX8_begin 17 = .ok (.ldc 54, 2) := by decide +kernel
theorem dX8_begin_19 : decode cX8_begin 19 = .ok (.invokespecial 56, 3) := by decide +kernel
theorem dX8_begin_22 : decode cX8_begin 22 = .ok (.athrow, 1) := by decide +kernel
theorem dX8_begin_23 : decode cX8_begin 23 = .ok (.aload_n 0, 1) := by decide +kernel
theorem dX8_begin_24 : decode cX8_begin 24 = .ok (.getfield 48, 3) := by decide +kernel
theorem dX8_begin_27 : decode cX8_begin 27 = .ok (.istore_n 2, 1) := by decide +kernel
theorem dX8_begin_28 : decode cX8_begin 28 = .ok (.aload_n 0, 1) := by decide +kernel
theorem dX8_begin_29 : decode cX8_begin 29 = .ok (.iload_n 1, 1) := by decide +kernel
theorem dX8_begin_30 : decode cX8_begin 30 = .ok (.putfield 48, 3) := by decide +kernel
theorem dX8_begin_33 : decode cX8_begin 33 = .ok (.aload_n 0, 1) := by decide +kernel
theorem dX8_begin_34 : decode cX8_begin 34 = .ok (.getfield 28, 3) := by decide +kernel
theorem dX8_begin_37 : decode cX8_begin 37 = .ok (.invokevirtual 59, 3) := by decide +kernel
theorem dX8_begin_40 : decode cX8_begin 40 = .ok (.iconst 0, 1) := by decide +kernel
theorem dX8_begin_41 : decode cX8_begin 41 = .ok (.istore_n 3, 1) := by decide +kernel
theorem dX8_begin_42 : decode cX8_begin 42 = .ok (.iload_n 3, 1) := by decide +kernel
theorem dX8_begin_43 : decode cX8_begin 43 = .ok (.iconst 4, 1) := by decide +kernel
theorem dX8_begin_44 : decode cX8_begin 44 = .ok (.if_icmp .ge 19, 3) := by decide +kernel
theorem dX8_begin_47 : decode cX8_begin 47 = .ok (.aload_n 0, 1) := by decide +kernel
theorem dX8_begin_48 : decode cX8_begin 48 = .ok (.getfield 44, 3) := by decide +kernel
theorem dX8_begin_51 : decode cX8_begin 51 = .ok (.iload_n 3, 1) := by decide +kernel
theorem dX8_begin_52 : decode cX8_begin 52 = .ok (.aaload, 1) := by decide +kernel
theorem dX8_begin_53 : decode cX8_begin 53 = .ok (.iload_n 1, 1) := by decide +kernel
theorem dX8_begin_54 : decode cX8_begin 54 = .ok (.invokevirtual 62, 3) := by decide +kernel
theorem dX8_begin_57 : decode cX8_begin 57 = .ok (.iinc 3 1, 3) := by decide +kernel
theorem dX8_begin_60 : decode cX8_begin 60 = .ok (.goto (-18), 3) := by decide +kernel
theorem dX8_begin_63 : decode cX8_begin 63 = .ok (.iload_n 2, 1) := by decide +kernel
theorem dX8_begin_64 : decode cX8_begin 64 = .ok (.ireturn, 1) := by decide +kernel
theorem dX8_make_0 : decode cX8_make 0 = .ok (.iload_n 1, 1) := by decide +kernel
theorem dX8_make_1 : decode cX8_make 1 = .ok (.ifCond .lt 8, 3) := by decide +kernel
theorem dX8_make_4 : decode cX8_make 4 = .ok (.iload_n 1, 1) := by decide +kernel
theorem dX8_make_5 : decode cX8_make 5 = .ok (.iconst 3, 1) := by decide +kernel
theorem dX8_make_6 : decode cX8_make 6 = .ok (.if_icmp .le 13, 3) := by decide +kernel
theorem dX8_make_9 : decode cX8_make 9 = .ok (.new 52, 3) := by decide +kernel
theorem dX8_make_12 : decode cX8_make 12 = .ok (.dup, 1) := by decide +kernel
theorem dX8_make_13 : decode cX8_make 13 = .ok (.ldc 65, 2) := by decide +kernel
theorem dX8_make_15 : decode cX8_make 15 = .ok (.invokespecial 56, 3) := by decide +kernel
theorem dX8_make_18 : decode cX8_make 18 = .ok (.athrow, 1) := by decide +kernel
theorem dX8_make_19 : decode cX8_make 19 = .ok (.iload_n 2, 1) := by decide +kernel
theorem dX8_make_20 : decode cX8_make 20 = .ok (.invokestatic 67, 3) := by decide +kernel
theorem dX8_make_23 : decode cX8_make 23 = .ok (.aload_n 0, 1) := by decide +kernel
theorem dX8_make_24 : decode cX8_make 24 = .ok (.getfield 28, 3) := by decide +kernel
theorem dX8_make_27 : decode cX8_make 27 = .ok (.getfield 70, 3) := by decide +kernel
theorem dX8_make_30 : decode cX8_make 30 = .ok (.bipush 80, 2) := by decide +kernel
theorem dX8_make_32 : decode cX8_make 32 = .ok (.if_icmp .lt 13, 3) := by decide +kernel
theorem dX8_make_35 : decode cX8_make 35 = .ok (.new 73, 3) := by decide +kernel
theorem dX8_make_38 : decode cX8_make 38 = .ok (.dup, 1) := by decide +kernel
theorem dX8_make_39 : decode cX8_make 39 = .ok (.ldc 75, 2) := by decide +kernel
theorem dX8_make_41 : decode cX8_make 41 = .ok (.invokespecial 77, 3) := by decide +kernel
theorem dX8_make_44 : decode cX8_make 44 = .ok (.athrow, 1) := by decide +kernel
theorem dX8_make_45 : decode cX8_make 45 = .ok (.aload_n 0, 1) := by decide +kernel
theorem dX8_make_46 : decode cX8_make 46 = .ok (.invokevirtual 78, 3) := by decide +kernel
theorem dX8_make_49 : decode cX8_make 49 = .ok (.aload_n 0, 1) := by decide +kernel
theorem dX8_make_50 : decode cX8_make 50 = .ok (.getfield 28, 3) := by decide +kernel
theorem dX8_make_53 : decode cX8_make 53 = .ok (.iload_n 1, 1) := by decide +kernel
theorem dX8_make_54 : decode cX8_make 54 = .ok (.invokevirtual 81, 3) := by decide +kernel
theorem dX8_make_57 : decode cX8_make 57 = .ok (.istore_n 3, 1) := by decide +kernel
theorem dX8_make_58 : decode cX8_make 58 = .ok (.iconst 0, 1) := by decide +kernel
theorem dX8_make_59 : decode cX8_make 59 = .ok (.istore 4, 2) := by decide +kernel
theorem dX8_make_61 : decode cX8_make 61 = .ok (.iload 4, 2) := by decide +kernel
theorem dX8_make_63 : decode cX8_make 63 = .ok (.iconst 4, 1) := by decide +kernel
theorem dX8_make_64 : decode cX8_make 64 = .ok (.if_icmp .ge 33, 3) := by decide +kernel
theorem dX8_make_67 : decode cX8_make 67 = .ok (.aload_n 0, 1) := by decide +kernel
theorem dX8_make_68 : decode cX8_make 68 = .ok (.getfield 44, 3) := by decide +kernel
theorem dX8_make_71 : decode cX8_make 71 = .ok (.iload 4, 2) := by decide +kernel
theorem dX8_make_73 : decode cX8_make 73 = .ok (.aaload, 1) := by decide +kernel
theorem dX8_make_74 : decode cX8_make 74 = .ok (.getfield 85, 3) := by decide +kernel
theorem dX8_make_77 : decode cX8_make 77 = .ok (.ifCond .ne 14, 3) := by decide +kernel
theorem dX8_make_80 : decode cX8_make 80 = .ok (.aload_n 0, 1) := by decide +kernel
theorem dX8_make_81 : decode cX8_make 81 = .ok (.getfield 44, 3) := by decide +kernel
theorem dX8_make_84 : decode cX8_make 84 = .ok (.iload 4, 2) := by decide +kernel
theorem dX8_make_86 : decode cX8_make 86 = .ok (.aaload, 1) := by decide +kernel
theorem dX8_make_87 : decode cX8_make 87 = .ok (.iload_n 3, 1) := by decide +kernel
theorem dX8_make_88 : decode cX8_make 88 = .ok (.invokevirtual 89, 3) := by decide +kernel
theorem dX8_make_91 : decode cX8_make 91 = .ok (.iinc 4 1, 3) := by decide +kernel
theorem dX8_make_94 : decode cX8_make 94 = .ok (.goto (-33), 3) := by decide +kernel
theorem dX8_make_97 : decode cX8_make 97 = .ok (.aload_n 0, 1) := by decide +kernel
theorem dX8_make_98 : decode cX8_make 98 = .ok (.iload_n 2, 1) := by decide +kernel
theorem dX8_make_99 : decode cX8_make 99 = .ok (.iload_n 3, 1) := by decide +kernel
theorem dX8_make_100 : decode cX8_make 100 = .ok (.invokevirtual 92, 3) := by decide +kernel
theorem dX8_make_103 : decode cX8_make 103 = .ok (.pop, 1) := by decide +kernel
theorem dX8_make_104 : decode cX8_make 104 = .ok (.aload_n 0, 1) := by decide +kernel
theorem dX8_make_105 : decode cX8_make 105 = .ok (.invokevirtual 96, 3) := by decide +kernel
theorem dX8_make_108 : decode cX8_make 108 = .ok (.iload_n 3, 1) := by decide +kernel
theorem dX8_make_109 : decode cX8_make 109 = .ok (.ireturn, 1) := by decide +kernel
theorem dX8_set_0 : decode cX8_set 0 = .ok (.aload_n 0, 1) := by decide +kernel
theorem dX8_set_1 : decode cX8_set 1 = .ok (.getfield 28, 3) := by decide +kernel
theorem dX8_set_4 : decode cX8_set 4 = .ok (.iload_n 1, 1) := by decide +kernel
theorem dX8_set_5 : decode cX8_set 5 = .ok (.invokevirtual 99, 3) := by decide +kernel
theorem dX8_set_8 : decode cX8_set 8 = .ok (.ifCond .eq 15, 3) := by decide +kernel
theorem dX8_set_11 : decode cX8_set 11 = .ok (.aload_n 0, 1) := by decide +kernel
theorem dX8_set_12 : decode cX8_set 12 = .ok (.getfield 28, 3) := by decide +kernel
theorem dX8_set_15 : decode cX8_set 15 = .ok (.iload_n 1, 1) := by decide +kernel
theorem dX8_set_16 : decode cX8_set 16 = .ok (.iload_n 2, 1) := by decide +kernel
theorem dX8_set_17 : decode cX8_set 17 = .ok (.invokevirtual 103, 3) := by decide +kernel
theorem dX8_set_20 : decode cX8_set 20 = .ok (.ifCond .ne 13, 3) := by decide +kernel
theorem dX8_set_23 : decode cX8_set 23 = .ok (.new 107, 3) := by decide +kernel
theorem dX8_set_26 : decode cX8_set 26 = .ok (.dup, 1) := by decide +kernel
theorem dX8_set_27 : decode cX8_set 27 = .ok (.ldc 109, 2) := by decide +kernel
theorem dX8_set_29 : decode cX8_set 29 = .ok (.invokespecial 111, 3) := by decide +kernel
theorem dX8_set_32 : decode cX8_set 32 = .ok (.athrow, 1) := by decide +kernel
theorem dX8_set_33 : decode cX8_set 33 = .ok (.aload_n 0, 1) := by decide +kernel
theorem dX8_set_34 : decode cX8_set 34 = .ok (.iload_n 3, 1) := by decide +kernel
theorem dX8_set_35 : decode cX8_set 35 = .ok (.invokevirtual 112, 3) := by decide +kernel
theorem dX8_set_38 : decode cX8_set 38 = .ok (.aload_n 0, 1) := by decide +kernel
theorem dX8_set_39 : decode cX8_set 39 = .ok (.invokevirtual 78, 3) := by decide +kernel
theorem dX8_set_42 : decode cX8_set 42 = .ok (.aload_n 0, 1) := by decide +kernel
theorem dX8_set_43 : decode cX8_set 43 = .ok (.getfield 28, 3) := by decide +kernel
theorem dX8_set_46 : decode cX8_set 46 = .ok (.iload_n 1, 1) := by decide +kernel
theorem dX8_set_47 : decode cX8_set 47 = .ok (.iload_n 2, 1) := by decide +kernel
theorem dX8_set_48 : decode cX8_set 48 = .ok (.invokevirtual 115, 3) := by decide +kernel
theorem dX8_set_51 : decode cX8_set 51 = .ok (.istore 4, 2) := by decide +kernel
theorem dX8_set_53 : decode cX8_set 53 = .ok (.iload 4, 2) := by decide +kernel
theorem dX8_set_55 : decode cX8_set 55 = .ok (.iload_n 3, 1) := by decide +kernel
theorem dX8_set_56 : decode cX8_set 56 = .ok (.if_icmp .eq 21, 3) := by decide +kernel
theorem dX8_set_59 : decode cX8_set 59 = .ok (.aload_n 0, 1) := by decide +kernel
theorem dX8_set_60 : decode cX8_set 60 = .ok (.getfield 28, 3) := by decide +kernel
theorem dX8_set_63 : decode cX8_set 63 = .ok (.iload_n 1, 1) := by decide +kernel
theorem dX8_set_64 : decode cX8_set 64 = .ok (.iload_n 2, 1) := by decide +kernel
theorem dX8_set_65 : decode cX8_set 65 = .ok (.iload_n 3, 1) := by decide +kernel
theorem dX8_set_66 : decode cX8_set 66 = .ok (.invokevirtual 118, 3) := by decide +kernel
theorem dX8_set_69 : decode cX8_set 69 = .ok (.aload_n 0, 1) := by decide +kernel
theorem dX8_set_70 : decode cX8_set 70 = .ok (.iload_n 1, 1) := by decide +kernel
theorem dX8_set_71 : decode cX8_set 71 = .ok (.iload 4, 2) := by decide +kernel
theorem dX8_set_73 : decode cX8_set 73 = .ok (.iload_n 3, 1) := by decide +kernel
theorem dX8_set_74 : decode cX8_set 74 = .ok (.invokevirtual 122, 3) := by decide +kernel
theorem dX8_set_77 : decode cX8_set 77 = .ok (.aload_n 0, 1) := by decide +kernel
theorem dX8_set_78 : decode cX8_set 78 = .ok (.invokevirtual 96, 3) := by decide +kernel
theorem dX8_set_81 : decode cX8_set 81 = .ok (.iload 4, 2) := by decide +kernel
theorem dX8_set_83 : decode cX8_set 83 = .ok (.ireturn, 1) := by decide +kernel
theorem dX8_root_0 : decode cX8_root 0 = .ok (.iload_n 1, 1) := by decide +kernel
theorem dX8_root_1 : decode cX8_root 1 = .ok (.invokestatic 67, 3) := by decide +kernel
theorem dX8_root_4 : decode cX8_root 4 = .ok (.aload_n 0, 1) := by decide +kernel
theorem dX8_root_5 : decode cX8_root 5 = .ok (.iload_n 2, 1) := by decide +kernel
theorem dX8_root_6 : decode cX8_root 6 = .ok (.invokevirtual 112, 3) := by decide +kernel
theorem dX8_root_9 : decode cX8_root 9 = .ok (.aload_n 0, 1) := by decide +kernel
theorem dX8_root_10 : decode cX8_root 10 = .ok (.invokevirtual 78, 3) := by decide +kernel
theorem dX8_root_13 : decode cX8_root 13 = .ok (.aload_n 0, 1) := by decide +kernel
theorem dX8_root_14 : decode cX8_root 14 = .ok (.iload_n 1, 1) := by decide +kernel
theorem dX8_root_15 : decode cX8_root 15 = .ok (.iload_n 2, 1) := by decide +kernel
theorem dX8_root_16 : decode cX8_root 16 = .ok (.invokevirtual 92, 3) := by decide +kernel
theorem dX8_root_19 : decode cX8_root 19 = .ok (.istore_n 3, 1) := by decide +kernel
theorem dX8_root_20 : decode cX8_root 20 = .ok (.aload_n 0, 1) := by decide +kernel
theorem dX8_root_21 : decode cX8_root 21 = .ok (.invokevirtual 96, 3) := by decide +kernel
theorem dX8_root_24 : decode cX8_root 24 = .ok (.iload_n 3, 1) := by decide +kernel
theorem dX8_root_25 : decode cX8_root 25 = .ok (.ireturn, 1) := by decide +kernel
theorem dX8_things_0 : decode cX8_things 0 = .ok (.aload_n 0, 1) := by decide +kernel
theorem dX8_things_1 : decode cX8_things 1 = .ok (.getfield 28, 3) := by decide +kernel
theorem dX8_things_4 : decode cX8_things 4 = .ok (.getfield 70, 3) := by decide +kernel
theorem dX8_things_7 : decode cX8_things 7 = .ok (.ireturn, 1) := by decide +kernel
theorem dX8_ofThing_0 : decode cX8_ofThing 0 = .ok (.aload_n 0, 1) := by decide +kernel
theorem dX8_ofThing_1 : decode cX8_ofThing 1 = .ok (.iload_n 1, 1) := by decide +kernel
theorem dX8_ofThing_2 : decode cX8_ofThing 2 = .ok (.invokevirtual 125, 3) := by decide +kernel
theorem dX8_ofThing_5 : decode cX8_ofThing 5 = .ok (.iload_n 2, 1) := by decide +kernel
theorem dX8_ofThing_6 : decode cX8_ofThing 6 = .ok (.iconst 2, 1) := by decide +kernel
theorem dX8_ofThing_7 : decode cX8_ofThing 7 = .ok (.invokestatic 128, 3) := by decide +kernel
theorem dX8_ofThing_10 : decode cX8_ofThing 10 = .ok (.iload_n 2, 1) := by decide +kernel
theorem dX8_ofThing_11 : decode cX8_ofThing 11 = .ok (.lookupswitch 46 #[(0, 25), (1, 34)], 25) := by decide +kernel
theorem dX8_ofThing_36 : decode cX8_ofThing 36 = .ok (.aload_n 0, 1) := by decide +kernel
theorem dX8_ofThing_37 : decode cX8_ofThing 37 = .ok (.getfield 28, 3) := by decide +kernel
theorem dX8_ofThing_40 : decode cX8_ofThing 40 = .ok (.iload_n 1, 1) := by decide +kernel
theorem dX8_ofThing_41 : decode cX8_ofThing 41 = .ok (.invokevirtual 132, 3) := by decide +kernel
theorem dX8_ofThing_44 : decode cX8_ofThing 44 = .ok (.ireturn, 1) := by decide +kernel
theorem dX8_ofThing_45 : decode cX8_ofThing 45 = .ok (.aload_n 0, 1) := by decide +kernel
theorem dX8_ofThing_46 : decode cX8_ofThing 46 = .ok (.getfield 28, 3) := by decide +kernel
theorem dX8_ofThing_49 : decode cX8_ofThing 49 = .ok (.iload_n 1, 1) := by decide +kernel
theorem dX8_ofThing_50 : decode cX8_ofThing 50 = .ok (.invokevirtual 99, 3) := by decide +kernel
theorem dX8_ofThing_53 : decode cX8_ofThing 53 = .ok (.invokestatic 135, 3) := by decide +kernel
theorem dX8_ofThing_56 : decode cX8_ofThing 56 = .ok (.ireturn, 1) := by decide +kernel
theorem dX8_ofThing_57 : decode cX8_ofThing 57 = .ok (.aload_n 0, 1) := by decide +kernel
theorem dX8_ofThing_58 : decode cX8_ofThing 58 = .ok (.getfield 28, 3) := by decide +kernel
theorem dX8_ofThing_61 : decode cX8_ofThing 61 = .ok (.iload_n 1, 1) := by decide +kernel
theorem dX8_ofThing_62 : decode cX8_ofThing 62 = .ok (.invokevirtual 139, 3) := by decide +kernel
theorem dX8_ofThing_65 : decode cX8_ofThing 65 = .ok (.ireturn, 1) := by decide +kernel
theorem dX8_named_0 : decode cX8_named 0 = .ok (.aload_n 0, 1) := by decide +kernel
theorem dX8_named_1 : decode cX8_named 1 = .ok (.getfield 28, 3) := by decide +kernel
theorem dX8_named_4 : decode cX8_named 4 = .ok (.iload_n 1, 1) := by decide +kernel
theorem dX8_named_5 : decode cX8_named 5 = .ok (.iload_n 2, 1) := by decide +kernel
theorem dX8_named_6 : decode cX8_named 6 = .ok (.invokevirtual 103, 3) := by decide +kernel
theorem dX8_named_9 : decode cX8_named 9 = .ok (.ifCond .ne 13, 3) := by decide +kernel
theorem dX8_named_12 : decode cX8_named 12 = .ok (.new 107, 3) := by decide +kernel
theorem dX8_named_15 : decode cX8_named 15 = .ok (.dup, 1) := by decide +kernel
theorem dX8_named_16 : decode cX8_named 16 = .ok (.ldc 142, 2) := by decide +kernel
theorem dX8_named_18 : decode cX8_named 18 = .ok (.invokespecial 111, 3) := by decide +kernel
theorem dX8_named_21 : decode cX8_named 21 = .ok (.athrow, 1) := by decide +kernel
theorem dX8_named_22 : decode cX8_named 22 = .ok (.aload_n 0, 1) := by decide +kernel
theorem dX8_named_23 : decode cX8_named 23 = .ok (.getfield 28, 3) := by decide +kernel
theorem dX8_named_26 : decode cX8_named 26 = .ok (.iload_n 1, 1) := by decide +kernel
theorem dX8_named_27 : decode cX8_named 27 = .ok (.iload_n 2, 1) := by decide +kernel
theorem dX8_named_28 : decode cX8_named 28 = .ok (.invokevirtual 115, 3) := by decide +kernel
theorem dX8_named_31 : decode cX8_named 31 = .ok (.ireturn, 1) := by decide +kernel
theorem dX8_collect_0 : decode cX8_collect 0 = .ok (.aload_n 0, 1) := by decide +kernel
theorem dX8_collect_1 : decode cX8_collect 1 = .ok (.iload_n 1, 1) := by decide +kernel
theorem dX8_collect_2 : decode cX8_collect 2 = .ok (.invokevirtual 144, 3) := by decide +kernel
theorem dX8_collect_5 : decode cX8_collect 5 = .ok (.astore_n 2, 1) := by decide +kernel
theorem dX8_collect_6 : decode cX8_collect 6 = .ok (.aload_n 2, 1) := by decide +kernel
theorem dX8_collect_7 : decode cX8_collect 7 = .ok (.invokevirtual 148, 3) := by decide +kernel
theorem dX8_collect_10 : decode cX8_collect 10 = .ok (.aload_n 2, 1) := by decide +kernel
theorem dX8_collect_11 : decode cX8_collect 11 = .ok (.invokevirtual 151, 3) := by decide +kernel
theorem dX8_collect_14 : decode cX8_collect 14 = .ok (.istore_n 3, 1) := by decide +kernel
theorem dX8_collect_15 : decode cX8_collect 15 = .ok (.aload_n 2, 1) := by decide +kernel
theorem dX8_collect_16 : decode cX8_collect 16 = .ok (.invokevirtual 155, 3) := by decide +kernel
theorem dX8_collect_19 : decode cX8_collect 19 = .ok (.iload_n 3, 1) := by decide +kernel
theorem dX8_collect_20 : decode cX8_collect 20 = .ok (.ireturn, 1) := by decide +kernel
theorem dX8_steps_0 : decode cX8_steps 0 = .ok (.iload_n 1, 1) := by decide +kernel
theorem dX8_steps_1 : decode cX8_steps 1 = .ok (.iconst 1, 1) := by decide +kernel
theorem dX8_steps_2 : decode cX8_steps 2 = .ok (.if_icmp .lt 9, 3) := by decide +kernel
theorem dX8_steps_5 : decode cX8_steps 5 = .ok (.iload_n 1, 1) := by decide +kernel
theorem dX8_steps_6 : decode cX8_steps 6 = .ok (.bipush 20, 2) := by decide +kernel
theorem dX8_steps_8 : decode cX8_steps 8 = .ok (.if_icmp .le 13, 3) := by decide +kernel
theorem dX8_steps_11 : decode cX8_steps 11 = .ok (.new 52, 3) := by decide +kernel
theorem dX8_steps_14 : decode cX8_steps 14 = .ok (.dup, 1) := by decide +kernel
theorem dX8_steps_15 : decode cX8_steps 15 = .ok (.ldc 163, 2) := by decide +kernel
theorem dX8_steps_17 : decode cX8_steps 17 = .ok (.invokespecial 56, 3) := by decide +kernel
theorem dX8_steps_20 : decode cX8_steps 20 = .ok (.athrow, 1) := by decide +kernel
theorem dX8_steps_21 : decode cX8_steps 21 = .ok (.aload_n 0, 1) := by decide +kernel
theorem dX8_steps_22 : decode cX8_steps 22 = .ok (.getfield 36, 3) := by decide +kernel
theorem dX8_steps_25 : decode cX8_steps 25 = .ok (.invokevirtual 165, 3) := by decide +kernel
theorem dX8_steps_28 : decode cX8_steps 28 = .ok (.aload_n 0, 1) := by decide +kernel
theorem dX8_steps_29 : decode cX8_steps 29 = .ok (.getfield 36, 3) := by decide +kernel
theorem dX8_steps_32 : decode cX8_steps 32 = .ok (.iload_n 1, 1) := by decide +kernel
theorem dX8_steps_33 : decode cX8_steps 33 = .ok (.invokevirtual 166, 3) := by decide +kernel
theorem dX8_steps_36 : decode cX8_steps 36 = .ok (.istore_n 2, 1) := by decide +kernel
theorem dX8_steps_37 : decode cX8_steps 37 = .ok (.aload_n 0, 1) := by decide +kernel
theorem dX8_steps_38 : decode cX8_steps 38 = .ok (.getfield 36, 3) := by decide +kernel
theorem dX8_steps_41 : decode cX8_steps 41 = .ok (.invokevirtual 169, 3) := by decide +kernel
theorem dX8_steps_44 : decode cX8_steps 44 = .ok (.iload_n 2, 1) := by decide +kernel
theorem dX8_steps_45 : decode cX8_steps 45 = .ok (.ireturn, 1) := by decide +kernel
theorem dX8_at_0 : decode cX8_at 0 = .ok (.aload_n 0, 1) := by decide +kernel
theorem dX8_at_1 : decode cX8_at 1 = .ok (.iload_n 1, 1) := by decide +kernel
theorem dX8_at_2 : decode cX8_at 2 = .ok (.invokevirtual 144, 3) := by decide +kernel
theorem dX8_at_5 : decode cX8_at 5 = .ok (.astore_n 3, 1) := by decide +kernel
theorem dX8_at_6 : decode cX8_at 6 = .ok (.aload_n 0, 1) := by decide +kernel
theorem dX8_at_7 : decode cX8_at 7 = .ok (.iload_n 2, 1) := by decide +kernel
theorem dX8_at_8 : decode cX8_at 8 = .ok (.invokevirtual 125, 3) := by decide +kernel
theorem dX8_at_11 : decode cX8_at 11 = .ok (.aload_n 3, 1) := by decide +kernel
theorem dX8_at_12 : decode cX8_at 12 = .ok (.iload_n 2, 1) := by decide +kernel
theorem dX8_at_13 : decode cX8_at 13 = .ok (.invokevirtual 170, 3) := by decide +kernel
theorem dX8_at_16 : decode cX8_at 16 = .ok (.ireturn, 1) := by decide +kernel
theorem dX8_told_0 : decode cX8_told 0 = .ok (.aload_n 0, 1) := by decide +kernel
theorem dX8_told_1 : decode cX8_told 1 = .ok (.iload_n 1, 1) := by decide +kernel
theorem dX8_told_2 : decode cX8_told 2 = .ok (.invokevirtual 144, 3) := by decide +kernel
theorem dX8_told_5 : decode cX8_told 5 = .ok (.astore_n 3, 1) := by decide +kernel
theorem dX8_told_6 : decode cX8_told 6 = .ok (.iload_n 2, 1) := by decide +kernel
theorem dX8_told_7 : decode cX8_told 7 = .ok (.bipush 7, 2) := by decide +kernel
theorem dX8_told_9 : decode cX8_told 9 = .ok (.invokestatic 128, 3) := by decide +kernel
theorem dX8_told_12 : decode cX8_told 12 = .ok (.iload_n 2, 1) := by decide +kernel
theorem dX8_told_13 : decode cX8_told 13 = .ok (.tableswitch 89 0 6 #[43, 48, 53, 58, 63, 68, 84], 43) := by decide +kernel
theorem dX8_told_56 : decode cX8_told 56 = .ok (.aload_n 3, 1) := by decide +kernel
theorem dX8_told_57 : decode cX8_told 57 = .ok (.invokevirtual 173, 3) := by decide +kernel
theorem dX8_told_60 : decode cX8_told 60 = .ok (.ireturn, 1) := by decide +kernel
theorem dX8_told_61 : decode cX8_told 61 = .ok (.aload_n 3, 1) := by decide +kernel
theorem dX8_told_62 : decode cX8_told 62 = .ok (.invokevirtual 176, 3) := by decide +kernel
theorem dX8_told_65 : decode cX8_told 65 = .ok (.ireturn, 1) := by decide +kernel
theorem dX8_told_66 : decode cX8_told 66 = .ok (.aload_n 3, 1) := by decide +kernel
theorem dX8_told_67 : decode cX8_told 67 = .ok (.invokevirtual 179, 3) := by decide +kernel
theorem dX8_told_70 : decode cX8_told 70 = .ok (.ireturn, 1) := by decide +kernel
theorem dX8_told_71 : decode cX8_told 71 = .ok (.aload_n 3, 1) := by decide +kernel
theorem dX8_told_72 : decode cX8_told 72 = .ok (.getfield 182, 3) := by decide +kernel
theorem dX8_told_75 : decode cX8_told 75 = .ok (.ireturn, 1) := by decide +kernel
theorem dX8_told_76 : decode cX8_told 76 = .ok (.aload_n 3, 1) := by decide +kernel
theorem dX8_told_77 : decode cX8_told 77 = .ok (.getfield 185, 3) := by decide +kernel
theorem dX8_told_80 : decode cX8_told 80 = .ok (.ireturn, 1) := by decide +kernel
theorem dX8_told_81 : decode cX8_told 81 = .ok (.aload_n 3, 1) := by decide +kernel
theorem dX8_told_82 : decode cX8_told 82 = .ok (.getfield 85, 3) := by decide +kernel
theorem dX8_told_85 : decode cX8_told 85 = .ok (.ifCond .eq 7, 3) := by decide +kernel
theorem dX8_told_88 : decode cX8_told 88 = .ok (.iconst 0, 1) := by decide +kernel
theorem dX8_told_89 : decode cX8_told 89 = .ok (.goto 7, 3) := by decide +kernel
theorem dX8_told_92 : decode cX8_told 92 = .ok (.aload_n 3, 1) := by decide +kernel
theorem dX8_told_93 : decode cX8_told 93 = .ok (.invokevirtual 188, 3) := by decide +kernel
theorem dX8_told_96 : decode cX8_told 96 = .ok (.ireturn, 1) := by decide +kernel
theorem dX8_told_97 : decode cX8_told 97 = .ok (.aload_n 3, 1) := by decide +kernel
theorem dX8_told_98 : decode cX8_told 98 = .ok (.getfield 191, 3) := by decide +kernel
theorem dX8_told_101 : decode cX8_told 101 = .ok (.ireturn, 1) := by decide +kernel
theorem dX8_told_102 : decode cX8_told 102 = .ok (.aload_n 3, 1) := by decide +kernel
theorem dX8_told_103 : decode cX8_told 103 = .ok (.getfield 85, 3) := by decide +kernel
theorem dX8_told_106 : decode cX8_told 106 = .ok (.invokestatic 135, 3) := by decide +kernel
theorem dX8_told_109 : decode cX8_told 109 = .ok (.ireturn, 1) := by decide +kernel
theorem dX8_kept_0 : decode cX8_kept 0 = .ok (.aload_n 0, 1) := by decide +kernel
theorem dX8_kept_1 : decode cX8_kept 1 = .ok (.iload_n 1, 1) := by decide +kernel
theorem dX8_kept_2 : decode cX8_kept 2 = .ok (.invokevirtual 125, 3) := by decide +kernel
theorem dX8_kept_5 : decode cX8_kept 5 = .ok (.iload_n 2, 1) := by decide +kernel
theorem dX8_kept_6 : decode cX8_kept 6 = .ok (.iconst 4, 1) := by decide +kernel
theorem dX8_kept_7 : decode cX8_kept 7 = .ok (.invokestatic 128, 3) := by decide +kernel
theorem dX8_kept_10 : decode cX8_kept 10 = .ok (.iload_n 2, 1) := by decide +kernel
theorem dX8_kept_11 : decode cX8_kept 11 = .ok (.tableswitch 83 0 3 #[29, 38, 65, 74], 29) := by decide +kernel
theorem dX8_kept_40 : decode cX8_kept 40 = .ok (.aload_n 0, 1) := by decide +kernel
theorem dX8_kept_41 : decode cX8_kept 41 = .ok (.getfield 32, 3) := by decide +kernel
theorem dX8_kept_44 : decode cX8_kept 44 = .ok (.iload_n 1, 1) := by decide +kernel
theorem dX8_kept_45 : decode cX8_kept 45 = .ok (.invokevirtual 194, 3) := by decide +kernel
theorem dX8_kept_48 : decode cX8_kept 48 = .ok (.ireturn, 1) := by decide +kernel
theorem dX8_kept_49 : decode cX8_kept 49 = .ok (.aload_n 0, 1) := by decide +kernel
theorem dX8_kept_50 : decode cX8_kept 50 = .ok (.getfield 32, 3) := by decide +kernel
theorem dX8_kept_53 : decode cX8_kept 53 = .ok (.iload_n 1, 1) := by decide +kernel
theorem dX8_kept_54 : decode cX8_kept 54 = .ok (.invokevirtual 197, 3) := by decide +kernel
theorem dX8_kept_57 : decode cX8_kept 57 = .ok (.ifCond .eq 17, 3) := by decide +kernel
theorem dX8_kept_60 : decode cX8_kept 60 = .ok (.aload_n 0, 1) := by decide +kernel
theorem dX8_kept_61 : decode cX8_kept 61 = .ok (.getfield 32, 3) := by decide +kernel
theorem dX8_kept_64 : decode cX8_kept 64 = .ok (.iload_n 1, 1) := by decide +kernel
theorem dX8_kept_65 : decode cX8_kept 65 = .ok (.invokevirtual 200, 3) := by decide +kernel
theorem dX8_kept_68 : decode cX8_kept 68 = .ok (.invokestatic 135, 3) := by decide +kernel
theorem dX8_kept_71 : decode cX8_kept 71 = .ok (.goto 4, 3) := by decide +kernel
theorem dX8_kept_74 : decode cX8_kept 74 = .ok (.iconst (-1), 1) := by decide +kernel
theorem dX8_kept_75 : decode cX8_kept 75 = .ok (.ireturn, 1) := by decide +kernel
theorem dX8_kept_76 : decode cX8_kept 76 = .ok (.aload_n 0, 1) := by decide +kernel
theorem dX8_kept_77 : decode cX8_kept 77 = .ok (.getfield 36, 3) := by decide +kernel
theorem dX8_kept_80 : decode cX8_kept 80 = .ok (.iload_n 1, 1) := by decide +kernel
theorem dX8_kept_81 : decode cX8_kept 81 = .ok (.invokevirtual 203, 3) := by decide +kernel
theorem dX8_kept_84 : decode cX8_kept 84 = .ok (.ireturn, 1) := by decide +kernel
theorem dX8_kept_85 : decode cX8_kept 85 = .ok (.aload_n 0, 1) := by decide +kernel
theorem dX8_kept_86 : decode cX8_kept 86 = .ok (.getfield 40, 3) := by decide +kernel
theorem dX8_kept_89 : decode cX8_kept 89 = .ok (.iload_n 1, 1) := by decide +kernel
theorem dX8_kept_90 : decode cX8_kept 90 = .ok (.invokevirtual 206, 3) := by decide +kernel
theorem dX8_kept_93 : decode cX8_kept 93 = .ok (.ireturn, 1) := by decide +kernel
theorem dX8_kept_94 : decode cX8_kept 94 = .ok (.aload_n 0, 1) := by decide +kernel
theorem dX8_kept_95 : decode cX8_kept 95 = .ok (.getfield 40, 3) := by decide +kernel
theorem dX8_kept_98 : decode cX8_kept 98 = .ok (.iload_n 1, 1) := by decide +kernel
theorem dX8_kept_99 : decode cX8_kept 99 = .ok (.invokevirtual 209, 3) := by decide +kernel
theorem dX8_kept_102 : decode cX8_kept 102 = .ok (.ifCond .eq 17, 3) := by decide +kernel
theorem dX8_kept_105 : decode cX8_kept 105 = .ok (.aload_n 0, 1) := by decide +kernel
theorem dX8_kept_106 : decode cX8_kept 106 = .ok (.getfield 40, 3) := by decide +kernel
theorem dX8_kept_109 : decode cX8_kept 109 = .ok (.iload_n 1, 1) := by decide +kernel
theorem dX8_kept_110 : decode cX8_kept 110 = .ok (.invokevirtual 210, 3) := by decide +kernel
theorem dX8_kept_113 : decode cX8_kept 113 = .ok (.invokestatic 135, 3) := by decide +kernel
theorem dX8_kept_116 : decode cX8_kept 116 = .ok (.goto 4, 3) := by decide +kernel
theorem dX8_kept_119 : decode cX8_kept 119 = .ok (.iconst (-1), 1) := by decide +kernel
theorem dX8_kept_120 : decode cX8_kept 120 = .ok (.ireturn, 1) := by decide +kernel
theorem dX8_more_0 : decode cX8_more 0 = .ok (.iload_n 1, 1) := by decide +kernel
theorem dX8_more_1 : decode cX8_more 1 = .ok (.iconst 3, 1) := by decide +kernel
theorem dX8_more_2 : decode cX8_more 2 = .ok (.invokestatic 128, 3) := by decide +kernel
theorem dX8_more_5 : decode cX8_more 5 = .ok (.iload_n 1, 1) := by decide +kernel
theorem dX8_more_6 : decode cX8_more 6 = .ok (.tableswitch 53 0 2 #[26, 34, 42], 26) := by decide +kernel
theorem dX8_more_32 : decode cX8_more 32 = .ok (.aload_n 0, 1) := by decide +kernel
theorem dX8_more_33 : decode cX8_more 33 = .ok (.getfield 32, 3) := by decide +kernel
theorem dX8_more_36 : decode cX8_more 36 = .ok (.getfield 213, 3) := by decide +kernel
theorem dX8_more_39 : decode cX8_more 39 = .ok (.ireturn, 1) := by decide +kernel
theorem dX8_more_40 : decode cX8_more 40 = .ok (.aload_n 0, 1) := by decide +kernel
theorem dX8_more_41 : decode cX8_more 41 = .ok (.getfield 32, 3) := by decide +kernel
theorem dX8_more_44 : decode cX8_more 44 = .ok (.getfield 216, 3) := by decide +kernel
theorem dX8_more_47 : decode cX8_more 47 = .ok (.ireturn, 1) := by decide +kernel
theorem dX8_more_48 : decode cX8_more 48 = .ok (.aload_n 0, 1) := by decide +kernel
theorem dX8_more_49 : decode cX8_more 49 = .ok (.getfield 36, 3) := by decide +kernel
theorem dX8_more_52 : decode cX8_more 52 = .ok (.getfield 219, 3) := by decide +kernel
theorem dX8_more_55 : decode cX8_more 55 = .ok (.invokestatic 135, 3) := by decide +kernel
theorem dX8_more_58 : decode cX8_more 58 = .ok (.ireturn, 1) := by decide +kernel
theorem dX8_more_59 : decode cX8_more 59 = .ok (.aload_n 0, 1) := by decide +kernel
theorem dX8_more_60 : decode cX8_more 60 = .ok (.getfield 40, 3) := by decide +kernel
theorem dX8_more_63 : decode cX8_more 63 = .ok (.getfield 222, 3) := by decide +kernel
theorem dX8_more_66 : decode cX8_more 66 = .ok (.ireturn, 1) := by decide +kernel
theorem dX8_wouldGo_0 : decode cX8_wouldGo 0 = .ok (.aload_n 0, 1) := by decide +kernel
theorem dX8_wouldGo_1 : decode cX8_wouldGo 1 = .ok (.iload_n 1, 1) := by decide +kernel
theorem dX8_wouldGo_2 : decode cX8_wouldGo 2 = .ok (.invokevirtual 144, 3) := by decide +kernel
theorem dX8_wouldGo_5 : decode cX8_wouldGo 5 = .ok (.astore_n 2, 1) := by decide +kernel
theorem dX8_wouldGo_6 : decode cX8_wouldGo 6 = .ok (.aload_n 2, 1) := by decide +kernel
theorem dX8_wouldGo_7 : decode cX8_wouldGo 7 = .ok (.getfield 85, 3) := by decide +kernel
theorem dX8_wouldGo_10 : decode cX8_wouldGo 10 = .ok (.ifCond .eq 7, 3) := by decide +kernel
theorem dX8_wouldGo_13 : decode cX8_wouldGo 13 = .ok (.iconst 0, 1) := by decide +kernel
theorem dX8_wouldGo_14 : decode cX8_wouldGo 14 = .ok (.goto 7, 3) := by decide +kernel
theorem dX8_wouldGo_17 : decode cX8_wouldGo 17 = .ok (.aload_n 2, 1) := by decide +kernel
theorem dX8_wouldGo_18 : decode cX8_wouldGo 18 = .ok (.invokevirtual 225, 3) := by decide +kernel
theorem dX8_wouldGo_21 : decode cX8_wouldGo 21 = .ok (.ireturn, 1) := by decide +kernel
theorem dX8_wouldWork_0 : decode cX8_wouldWork 0 = .ok (.aload_n 0, 1) := by decide +kernel
theorem dX8_wouldWork_1 : decode cX8_wouldWork 1 = .ok (.iload_n 1, 1) := by decide +kernel
theorem dX8_wouldWork_2 : decode cX8_wouldWork 2 = .ok (.invokevirtual 144, 3) := by decide +kernel
theorem dX8_wouldWork_5 : decode cX8_wouldWork 5 = .ok (.astore_n 2, 1) := by decide +kernel
theorem dX8_wouldWork_6 : decode cX8_wouldWork 6 = .ok (.aload_n 2, 1) := by decide +kernel
theorem dX8_wouldWork_7 : decode cX8_wouldWork 7 = .ok (.getfield 85, 3) := by decide +kernel
theorem dX8_wouldWork_10 : decode cX8_wouldWork 10 = .ok (.ifCond .eq 7, 3) := by decide +kernel
theorem dX8_wouldWork_13 : decode cX8_wouldWork 13 = .ok (.iconst 0, 1) := by decide +kernel
theorem dX8_wouldWork_14 : decode cX8_wouldWork 14 = .ok (.goto 7, 3) := by decide +kernel
theorem dX8_wouldWork_17 : decode cX8_wouldWork 17 = .ok (.aload_n 2, 1) := by decide +kernel
theorem dX8_wouldWork_18 : decode cX8_wouldWork 18 = .ok (.invokevirtual 228, 3) := by decide +kernel
theorem dX8_wouldWork_21 : decode cX8_wouldWork 21 = .ok (.ireturn, 1) := by decide +kernel
theorem dX8_wouldLose_0 : decode cX8_wouldLose 0 = .ok (.iload_n 1, 1) := by decide +kernel
theorem dX8_wouldLose_1 : decode cX8_wouldLose 1 = .ok (.invokestatic 67, 3) := by decide +kernel
theorem dX8_wouldLose_4 : decode cX8_wouldLose 4 = .ok (.aload_n 0, 1) := by decide +kernel
theorem dX8_wouldLose_5 : decode cX8_wouldLose 5 = .ok (.getfield 28, 3) := by decide +kernel
theorem dX8_wouldLose_8 : decode cX8_wouldLose 8 = .ok (.iload_n 1, 1) := by decide +kernel
theorem dX8_wouldLose_9 : decode cX8_wouldLose 9 = .ok (.invokevirtual 231, 3) := by decide +kernel
theorem dX8_wouldLose_12 : decode cX8_wouldLose 12 = .ok (.ireturn, 1) := by decide +kernel
theorem dX8_digest_0 : decode cX8_digest 0 = .ok (.ldc2_w 234, 3) := by decide +kernel
theorem dX8_digest_3 : decode cX8_digest 3 = .ok (.aload_n 0, 1) := by decide +kernel
theorem dX8_digest_4 : decode cX8_digest 4 = .ok (.getfield 28, 3) := by decide +kernel
theorem dX8_digest_7 : decode cX8_digest 7 = .ok (.getfield 70, 3) := by decide +kernel
theorem dX8_digest_10 : decode cX8_digest 10 = .ok (.invokestatic 236, 3) := by decide +kernel
theorem dX8_digest_13 : decode cX8_digest 13 = .ok (.lstore_n 1, 1) := by decide +kernel
theorem dX8_digest_14 : decode cX8_digest 14 = .ok (.iconst 0, 1) := by decide +kernel
theorem dX8_digest_15 : decode cX8_digest 15 = .ok (.istore_n 3, 1) := by decide +kernel
theorem dX8_digest_16 : decode cX8_digest 16 = .ok (.iload_n 3, 1) := by decide +kernel
theorem dX8_digest_17 : decode cX8_digest 17 = .ok (.aload_n 0, 1) := by decide +kernel
theorem dX8_digest_18 : decode cX8_digest 18 = .ok (.getfield 28, 3) := by decide +kernel
theorem dX8_digest_21 : decode cX8_digest 21 = .ok (.getfield 70, 3) := by decide +kernel
theorem dX8_digest_24 : decode cX8_digest 24 = .ok (.if_icmp .ge 16, 3) := by decide +kernel
theorem dX8_digest_27 : decode cX8_digest 27 = .ok (.aload_n 0, 1) := by decide +kernel
theorem dX8_digest_28 : decode cX8_digest 28 = .ok (.lload_n 1, 1) := by decide +kernel
theorem dX8_digest_29 : decode cX8_digest 29 = .ok (.iload_n 3, 1) := by decide +kernel
theorem dX8_digest_30 : decode cX8_digest 30 = .ok (.invokevirtual 240, 3) := by decide +kernel
theorem dX8_digest_33 : decode cX8_digest 33 = .ok (.lstore_n 1, 1) := by decide +kernel
theorem dX8_digest_34 : decode cX8_digest 34 = .ok (.iinc 3 1, 3) := by decide +kernel
theorem dX8_digest_37 : decode cX8_digest 37 = .ok (.goto (-21), 3) := by decide +kernel
theorem dX8_digest_40 : decode cX8_digest 40 = .ok (.iconst 0, 1) := by decide +kernel
theorem dX8_digest_41 : decode cX8_digest 41 = .ok (.istore_n 3, 1) := by decide +kernel
theorem dX8_digest_42 : decode cX8_digest 42 = .ok (.iload_n 3, 1) := by decide +kernel
theorem dX8_digest_43 : decode cX8_digest 43 = .ok (.iconst 4, 1) := by decide +kernel
theorem dX8_digest_44 : decode cX8_digest 44 = .ok (.if_icmp .ge 57, 3) := by decide +kernel
theorem dX8_digest_47 : decode cX8_digest 47 = .ok (.iconst 0, 1) := by decide +kernel
theorem dX8_digest_48 : decode cX8_digest 48 = .ok (.istore 4, 2) := by decide +kernel
theorem dX8_digest_50 : decode cX8_digest 50 = .ok (.iload 4, 2) := by decide +kernel
theorem dX8_digest_52 : decode cX8_digest 52 = .ok (.bipush 7, 2) := by decide +kernel
theorem dX8_digest_54 : decode cX8_digest 54 = .ok (.if_icmp .gt 21, 3) := by decide +kernel
theorem dX8_digest_57 : decode cX8_digest 57 = .ok (.lload_n 1, 1) := by decide +kernel
theorem dX8_digest_58 : decode cX8_digest 58 = .ok (.aload_n 0, 1) := by decide +kernel
theorem dX8_digest_59 : decode cX8_digest 59 = .ok (.iload_n 3, 1) := by decide +kernel
theorem dX8_digest_60 : decode cX8_digest 60 = .ok (.iload 4, 2) := by decide +kernel
theorem dX8_digest_62 : decode cX8_digest 62 = .ok (.invokevirtual 243, 3) := by decide +kernel
theorem dX8_digest_65 : decode cX8_digest 65 = .ok (.invokestatic 236, 3) := by decide +kernel
theorem dX8_digest_68 : decode cX8_digest 68 = .ok (.lstore_n 1, 1) := by decide +kernel
theorem dX8_digest_69 : decode cX8_digest 69 = .ok (.iinc 4 1, 3) := by decide +kernel
theorem dX8_digest_72 : decode cX8_digest 72 = .ok (.goto (-22), 3) := by decide +kernel
theorem dX8_digest_75 : decode cX8_digest 75 = .ok (.lload_n 1, 1) := by decide +kernel
theorem dX8_digest_76 : decode cX8_digest 76 = .ok (.aload_n 0, 1) := by decide +kernel
theorem dX8_digest_77 : decode cX8_digest 77 = .ok (.iload_n 3, 1) := by decide +kernel
theorem dX8_digest_78 : decode cX8_digest 78 = .ok (.invokevirtual 246, 3) := by decide +kernel
theorem dX8_digest_81 : decode cX8_digest 81 = .ok (.invokestatic 236, 3) := by decide +kernel
theorem dX8_digest_84 : decode cX8_digest 84 = .ok (.lstore_n 1, 1) := by decide +kernel
theorem dX8_digest_85 : decode cX8_digest 85 = .ok (.lload_n 1, 1) := by decide +kernel
theorem dX8_digest_86 : decode cX8_digest 86 = .ok (.aload_n 0, 1) := by decide +kernel
theorem dX8_digest_87 : decode cX8_digest 87 = .ok (.iload_n 3, 1) := by decide +kernel
theorem dX8_digest_88 : decode cX8_digest 88 = .ok (.invokevirtual 249, 3) := by decide +kernel
theorem dX8_digest_91 : decode cX8_digest 91 = .ok (.invokestatic 236, 3) := by decide +kernel
theorem dX8_digest_94 : decode cX8_digest 94 = .ok (.lstore_n 1, 1) := by decide +kernel
theorem dX8_digest_95 : decode cX8_digest 95 = .ok (.iinc 3 1, 3) := by decide +kernel
theorem dX8_digest_98 : decode cX8_digest 98 = .ok (.goto (-56), 3) := by decide +kernel
theorem dX8_digest_101 : decode cX8_digest 101 = .ok (.iconst 0, 1) := by decide +kernel
theorem dX8_digest_102 : decode cX8_digest 102 = .ok (.istore_n 3, 1) := by decide +kernel
theorem dX8_digest_103 : decode cX8_digest 103 = .ok (.iload_n 3, 1) := by decide +kernel
theorem dX8_digest_104 : decode cX8_digest 104 = .ok (.iconst 3, 1) := by decide +kernel
theorem dX8_digest_105 : decode cX8_digest 105 = .ok (.if_icmp .gt 19, 3) := by decide +kernel
theorem dX8_digest_108 : decode cX8_digest 108 = .ok (.lload_n 1, 1) := by decide +kernel
theorem dX8_digest_109 : decode cX8_digest 109 = .ok (.aload_n 0, 1) := by decide +kernel
theorem dX8_digest_110 : decode cX8_digest 110 = .ok (.iload_n 3, 1) := by decide +kernel
theorem dX8_digest_111 : decode cX8_digest 111 = .ok (.invokevirtual 252, 3) := by decide +kernel
theorem dX8_digest_114 : decode cX8_digest 114 = .ok (.invokestatic 236, 3) := by decide +kernel
theorem dX8_digest_117 : decode cX8_digest 117 = .ok (.lstore_n 1, 1) := by decide +kernel
theorem dX8_digest_118 : decode cX8_digest 118 = .ok (.iinc 3 1, 3) := by decide +kernel
theorem dX8_digest_121 : decode cX8_digest 121 = .ok (.goto (-18), 3) := by decide +kernel
theorem dX8_digest_124 : decode cX8_digest 124 = .ok (.iconst 0, 1) := by decide +kernel
theorem dX8_digest_125 : decode cX8_digest 125 = .ok (.istore_n 3, 1) := by decide +kernel
theorem dX8_digest_126 : decode cX8_digest 126 = .ok (.iload_n 3, 1) := by decide +kernel
theorem dX8_digest_127 : decode cX8_digest 127 = .ok (.bipush 6, 2) := by decide +kernel
theorem dX8_digest_129 : decode cX8_digest 129 = .ok (.if_icmp .ge 19, 3) := by decide +kernel
theorem dX8_digest_132 : decode cX8_digest 132 = .ok (.lload_n 1, 1) := by decide +kernel
theorem dX8_digest_133 : decode cX8_digest 133 = .ok (.aload_n 0, 1) := by decide +kernel
theorem dX8_digest_134 : decode cX8_digest 134 = .ok (.iload_n 3, 1) := by decide +kernel
theorem dX8_digest_135 : decode cX8_digest 135 = .ok (.invokevirtual 255, 3) := by decide +kernel
theorem dX8_digest_138 : decode cX8_digest 138 = .ok (.invokestatic 236, 3) := by decide +kernel
theorem dX8_digest_141 : decode cX8_digest 141 = .ok (.lstore_n 1, 1) := by decide +kernel
theorem dX8_digest_142 : decode cX8_digest 142 = .ok (.iinc 3 1, 3) := by decide +kernel
theorem dX8_digest_145 : decode cX8_digest 145 = .ok (.goto (-19), 3) := by decide +kernel
theorem dX8_digest_148 : decode cX8_digest 148 = .ok (.lload_n 1, 1) := by decide +kernel
theorem dX8_digest_149 : decode cX8_digest 149 = .ok (.lreturn, 1) := by decide +kernel
theorem dX8_mixedThing_0 : decode cX8_mixedThing 0 = .ok (.lload_n 1, 1) := by decide +kernel
theorem dX8_mixedThing_1 : decode cX8_mixedThing 1 = .ok (.lstore 4, 2) := by decide +kernel
theorem dX8_mixedThing_3 : decode cX8_mixedThing 3 = .ok (.iconst 0, 1) := by decide +kernel
theorem dX8_mixedThing_4 : decode cX8_mixedThing 4 = .ok (.istore 6, 2) := by decide +kernel
theorem dX8_mixedThing_6 : decode cX8_mixedThing 6 = .ok (.iload 6, 2) := by decide +kernel
theorem dX8_mixedThing_8 : decode cX8_mixedThing 8 = .ok (.iconst 2, 1) := by decide +kernel
theorem dX8_mixedThing_9 : decode cX8_mixedThing 9 = .ok (.if_icmp .gt 23, 3) := by decide +kernel
theorem dX8_mixedThing_12 : decode cX8_mixedThing 12 = .ok (.lload 4, 2) := by decide +kernel
theorem dX8_mixedThing_14 : decode cX8_mixedThing 14 = .ok (.aload_n 0, 1) := by decide +kernel
theorem dX8_mixedThing_15 : decode cX8_mixedThing 15 = .ok (.iload_n 3, 1) := by decide +kernel
theorem dX8_mixedThing_16 : decode cX8_mixedThing 16 = .ok (.iload 6, 2) := by decide +kernel
theorem dX8_mixedThing_18 : decode cX8_mixedThing 18 = .ok (.invokevirtual 258, 3) := by decide +kernel
theorem dX8_mixedThing_21 : decode cX8_mixedThing 21 = .ok (.invokestatic 236, 3) := by decide +kernel
theorem dX8_mixedThing_24 : decode cX8_mixedThing 24 = .ok (.lstore 4, 2) := by decide +kernel
theorem dX8_mixedThing_26 : decode cX8_mixedThing 26 = .ok (.iinc 6 1, 3) := by decide +kernel
theorem dX8_mixedThing_29 : decode cX8_mixedThing 29 = .ok (.goto (-23), 3) := by decide +kernel
theorem dX8_mixedThing_32 : decode cX8_mixedThing 32 = .ok (.iconst 0, 1) := by decide +kernel
theorem dX8_mixedThing_33 : decode cX8_mixedThing 33 = .ok (.istore 6, 2) := by decide +kernel
theorem dX8_mixedThing_35 : decode cX8_mixedThing 35 = .ok (.iload 6, 2) := by decide +kernel
theorem dX8_mixedThing_37 : decode cX8_mixedThing 37 = .ok (.aload_n 0, 1) := by decide +kernel
theorem dX8_mixedThing_38 : decode cX8_mixedThing 38 = .ok (.getfield 28, 3) := by decide +kernel
theorem dX8_mixedThing_41 : decode cX8_mixedThing 41 = .ok (.iload_n 3, 1) := by decide +kernel
theorem dX8_mixedThing_42 : decode cX8_mixedThing 42 = .ok (.invokevirtual 132, 3) := by decide +kernel
theorem dX8_mixedThing_45 : decode cX8_mixedThing 45 = .ok (.if_icmp .ge 26, 3) := by decide +kernel
theorem dX8_mixedThing_48 : decode cX8_mixedThing 48 = .ok (.lload 4, 2) := by decide +kernel
theorem dX8_mixedThing_50 : decode cX8_mixedThing 50 = .ok (.aload_n 0, 1) := by decide +kernel
theorem dX8_mixedThing_51 : decode cX8_mixedThing 51 = .ok (.getfield 28, 3) := by decide +kernel
theorem dX8_mixedThing_54 : decode cX8_mixedThing 54 = .ok (.iload_n 3, 1) := by decide +kernel
theorem dX8_mixedThing_55 : decode cX8_mixedThing 55 = .ok (.iload 6, 2) := by decide +kernel
theorem dX8_mixedThing_57 : decode cX8_mixedThing 57 = .ok (.invokevirtual 115, 3) := by decide +kernel
theorem dX8_mixedThing_60 : decode cX8_mixedThing 60 = .ok (.invokestatic 236, 3) := by decide +kernel
theorem dX8_mixedThing_63 : decode cX8_mixedThing 63 = .ok (.lstore 4, 2) := by decide +kernel
theorem dX8_mixedThing_65 : decode cX8_mixedThing 65 = .ok (.iinc 6 1, 3) := by decide +kernel
theorem dX8_mixedThing_68 : decode cX8_mixedThing 68 = .ok (.goto (-33), 3) := by decide +kernel
theorem dX8_mixedThing_71 : decode cX8_mixedThing 71 = .ok (.iconst 0, 1) := by decide +kernel
theorem dX8_mixedThing_72 : decode cX8_mixedThing 72 = .ok (.istore 6, 2) := by decide +kernel
theorem dX8_mixedThing_74 : decode cX8_mixedThing 74 = .ok (.iload 6, 2) := by decide +kernel
theorem dX8_mixedThing_76 : decode cX8_mixedThing 76 = .ok (.iconst 4, 1) := by decide +kernel
theorem dX8_mixedThing_77 : decode cX8_mixedThing 77 = .ok (.if_icmp .ge 27, 3) := by decide +kernel
theorem dX8_mixedThing_80 : decode cX8_mixedThing 80 = .ok (.lload 4, 2) := by decide +kernel
theorem dX8_mixedThing_82 : decode cX8_mixedThing 82 = .ok (.aload_n 0, 1) := by decide +kernel
theorem dX8_mixedThing_83 : decode cX8_mixedThing 83 = .ok (.getfield 44, 3) := by decide +kernel
theorem dX8_mixedThing_86 : decode cX8_mixedThing 86 = .ok (.iload 6, 2) := by decide +kernel
theorem dX8_mixedThing_88 : decode cX8_mixedThing 88 = .ok (.aaload, 1) := by decide +kernel
theorem dX8_mixedThing_89 : decode cX8_mixedThing 89 = .ok (.iload_n 3, 1) := by decide +kernel
theorem dX8_mixedThing_90 : decode cX8_mixedThing 90 = .ok (.invokevirtual 170, 3) := by decide +kernel
theorem dX8_mixedThing_93 : decode cX8_mixedThing 93 = .ok (.invokestatic 236, 3) := by decide +kernel
theorem dX8_mixedThing_96 : decode cX8_mixedThing 96 = .ok (.lstore 4, 2) := by decide +kernel
theorem dX8_mixedThing_98 : decode cX8_mixedThing 98 = .ok (.iinc 6 1, 3) := by decide +kernel
theorem dX8_mixedThing_101 : decode cX8_mixedThing 101 = .ok (.goto (-27), 3) := by decide +kernel
theorem dX8_mixedThing_104 : decode cX8_mixedThing 104 = .ok (.iconst 0, 1) := by decide +kernel
theorem dX8_mixedThing_105 : decode cX8_mixedThing 105 = .ok (.istore 6, 2) := by decide +kernel
theorem dX8_mixedThing_107 : decode cX8_mixedThing 107 = .ok (.iload 6, 2) := by decide +kernel
theorem dX8_mixedThing_109 : decode cX8_mixedThing 109 = .ok (.iconst 4, 1) := by decide +kernel
theorem dX8_mixedThing_110 : decode cX8_mixedThing 110 = .ok (.if_icmp .gt 23, 3) := by decide +kernel
theorem dX8_mixedThing_113 : decode cX8_mixedThing 113 = .ok (.lload 4, 2) := by decide +kernel
theorem dX8_mixedThing_115 : decode cX8_mixedThing 115 = .ok (.aload_n 0, 1) := by decide +kernel
theorem dX8_mixedThing_116 : decode cX8_mixedThing 116 = .ok (.iload_n 3, 1) := by decide +kernel
theorem dX8_mixedThing_117 : decode cX8_mixedThing 117 = .ok (.iload 6, 2) := by decide +kernel
theorem dX8_mixedThing_119 : decode cX8_mixedThing 119 = .ok (.invokevirtual 261, 3) := by decide +kernel
theorem dX8_mixedThing_122 : decode cX8_mixedThing 122 = .ok (.invokestatic 236, 3) := by decide +kernel
theorem dX8_mixedThing_125 : decode cX8_mixedThing 125 = .ok (.lstore 4, 2) := by decide +kernel
theorem dX8_mixedThing_127 : decode cX8_mixedThing 127 = .ok (.iinc 6 1, 3) := by decide +kernel
theorem dX8_mixedThing_130 : decode cX8_mixedThing 130 = .ok (.goto (-23), 3) := by decide +kernel
theorem dX8_mixedThing_133 : decode cX8_mixedThing 133 = .ok (.lload 4, 2) := by decide +kernel
theorem dX8_mixedThing_135 : decode cX8_mixedThing 135 = .ok (.lreturn, 1) := by decide +kernel
theorem dX8_mixed_0 : decode cX8_mixed 0 = .ok (.lload_n 0, 1) := by decide +kernel
theorem dX8_mixed_1 : decode cX8_mixed 1 = .ok (.ldc2_w 264, 3) := by decide +kernel
theorem dX8_mixed_4 : decode cX8_mixed 4 = .ok (.lmul, 1) := by decide +kernel
theorem dX8_mixed_5 : decode cX8_mixed 5 = .ok (.iload_n 2, 1) := by decide +kernel
theorem dX8_mixed_6 : decode cX8_mixed 6 = .ok (.i2l, 1) := by decide +kernel
theorem dX8_mixed_7 : decode cX8_mixed 7 = .ok (.ladd, 1) := by decide +kernel
theorem dX8_mixed_8 : decode cX8_mixed 8 = .ok (.lreturn, 1) := by decide +kernel
theorem dX8_asNumber_0 : decode cX8_asNumber 0 = .ok (.iload_n 0, 1) := by decide +kernel
theorem dX8_asNumber_1 : decode cX8_asNumber 1 = .ok (.ifCond .eq 7, 3) := by decide +kernel
theorem dX8_asNumber_4 : decode cX8_asNumber 4 = .ok (.iconst 1, 1) := by decide +kernel
theorem dX8_asNumber_5 : decode cX8_asNumber 5 = .ok (.goto 4, 3) := by decide +kernel
theorem dX8_asNumber_8 : decode cX8_asNumber 8 = .ok (.iconst 0, 1) := by decide +kernel
theorem dX8_asNumber_9 : decode cX8_asNumber 9 = .ok (.ireturn, 1) := by decide +kernel
theorem dX8_checkThing_0 : decode cX8_checkThing 0 = .ok (.aload_n 0, 1) := by decide +kernel
theorem dX8_checkThing_1 : decode cX8_checkThing 1 = .ok (.getfield 28, 3) := by decide +kernel
theorem dX8_checkThing_4 : decode cX8_checkThing 4 = .ok (.iload_n 1, 1) := by decide +kernel
theorem dX8_checkThing_5 : decode cX8_checkThing 5 = .ok (.invokevirtual 266, 3) := by decide +kernel
theorem dX8_checkThing_8 : decode cX8_checkThing 8 = .ok (.ifCond .ne 14, 3) := by decide +kernel
theorem dX8_checkThing_11 : decode cX8_checkThing 11 = .ok (.new 107, 3) := by decide +kernel
theorem dX8_checkThing_14 : decode cX8_checkThing 14 = .ok (.dup, 1) := by decide +kernel
theorem dX8_checkThing_15 : decode cX8_checkThing 15 = .ok (.ldc_w 269, 3) := by decide +kernel
theorem dX8_checkThing_18 : decode cX8_checkThing 18 = .ok (.invokespecial 111, 3) := by decide +kernel
theorem dX8_checkThing_21 : decode cX8_checkThing 21 = .ok (.athrow, 1) := by decide +kernel
theorem dX8_checkThing_22 : decode cX8_checkThing 22 = .ok (.return_, 1) := by decide +kernel
theorem dX8_checkNameable_0 : decode cX8_checkNameable 0 = .ok (.iload_n 1, 1) := by decide +kernel
theorem dX8_checkNameable_1 : decode cX8_checkNameable 1 = .ok (.iconst (-1), 1) := by decide +kernel
theorem dX8_checkNameable_2 : decode cX8_checkNameable 2 = .ok (.if_icmp .eq 25, 3) := by decide +kernel
theorem dX8_checkNameable_5 : decode cX8_checkNameable 5 = .ok (.aload_n 0, 1) := by decide +kernel
theorem dX8_checkNameable_6 : decode cX8_checkNameable 6 = .ok (.getfield 28, 3) := by decide +kernel
theorem dX8_checkNameable_9 : decode cX8_checkNameable 9 = .ok (.iload_n 1, 1) := by decide +kernel
theorem dX8_checkNameable_10 : decode cX8_checkNameable 10 = .ok (.invokevirtual 99, 3) := by decide +kernel
theorem dX8_checkNameable_13 : decode cX8_checkNameable 13 = .ok (.ifCond .ne 14, 3) := by decide +kernel
theorem dX8_checkNameable_16 : decode cX8_checkNameable 16 = .ok (.new 107, 3) := by decide +kernel
theorem dX8_checkNameable_19 : decode cX8_checkNameable 19 = .ok (.dup, 1) := by decide +kernel
theorem dX8_checkNameable_20 : decode cX8_checkNameable 20 = .ok (.ldc_w 271, 3) := by decide +kernel
theorem dX8_checkNameable_23 : decode cX8_checkNameable 23 = .ok (.invokespecial 111, 3) := by decide +kernel
theorem dX8_checkNameable_26 : decode cX8_checkNameable 26 = .ok (.athrow, 1) := by decide +kernel
theorem dX8_checkNameable_27 : decode cX8_checkNameable 27 = .ok (.return_, 1) := by decide +kernel
theorem dX8_checkRoot_0 : decode cX8_checkRoot 0 = .ok (.iload_n 0, 1) := by decide +kernel
theorem dX8_checkRoot_1 : decode cX8_checkRoot 1 = .ok (.ifCond .lt 9, 3) := by decide +kernel
theorem dX8_checkRoot_4 : decode cX8_checkRoot 4 = .ok (.iload_n 0, 1) := by decide +kernel
theorem dX8_checkRoot_5 : decode cX8_checkRoot 5 = .ok (.bipush 6, 2) := by decide +kernel
theorem dX8_checkRoot_7 : decode cX8_checkRoot 7 = .ok (.if_icmp .lt 14, 3) := by decide +kernel
theorem dX8_checkRoot_10 : decode cX8_checkRoot 10 = .ok (.new 107, 3) := by decide +kernel
theorem dX8_checkRoot_13 : decode cX8_checkRoot 13 = .ok (.dup, 1) := by decide +kernel
theorem dX8_checkRoot_14 : decode cX8_checkRoot 14 = .ok (.ldc_w 273, 3) := by decide +kernel
theorem dX8_checkRoot_17 : decode cX8_checkRoot 17 = .ok (.invokespecial 111, 3) := by decide +kernel
theorem dX8_checkRoot_20 : decode cX8_checkRoot 20 = .ok (.athrow, 1) := by decide +kernel
theorem dX8_checkRoot_21 : decode cX8_checkRoot 21 = .ok (.return_, 1) := by decide +kernel
theorem dX8_checkWhat_0 : decode cX8_checkWhat 0 = .ok (.iload_n 0, 1) := by decide +kernel
theorem dX8_checkWhat_1 : decode cX8_checkWhat 1 = .ok (.ifCond .lt 8, 3) := by decide +kernel
theorem dX8_checkWhat_4 : decode cX8_checkWhat 4 = .ok (.iload_n 0, 1) := by decide +kernel
theorem dX8_checkWhat_5 : decode cX8_checkWhat 5 = .ok (.iload_n 1, 1) := by decide +kernel
theorem dX8_checkWhat_6 : decode cX8_checkWhat 6 = .ok (.if_icmp .le 14, 3) := by decide +kernel
theorem dX8_checkWhat_9 : decode cX8_checkWhat 9 = .ok (.new 52, 3) := by decide +kernel
theorem dX8_checkWhat_12 : decode cX8_checkWhat 12 = .ok (.dup, 1) := by decide +kernel
theorem dX8_checkWhat_13 : decode cX8_checkWhat 13 = .ok (.ldc_w 275, 3) := by decide +kernel
theorem dX8_checkWhat_16 : decode cX8_checkWhat 16 = .ok (.invokespecial 56, 3) := by decide +kernel
theorem dX8_checkWhat_19 : decode cX8_checkWhat 19 = .ok (.athrow, 1) := by decide +kernel
theorem dX8_checkWhat_20 : decode cX8_checkWhat 20 = .ok (.return_, 1) := by decide +kernel
theorem dX8_storeOf_0 : decode cX8_storeOf 0 = .ok (.iload_n 1, 1) := by decide +kernel
theorem dX8_storeOf_1 : decode cX8_storeOf 1 = .ok (.ifCond .lt 8, 3) := by decide +kernel
theorem dX8_storeOf_4 : decode cX8_storeOf 4 = .ok (.iload_n 1, 1) := by decide +kernel
theorem dX8_storeOf_5 : decode cX8_storeOf 5 = .ok (.iconst 4, 1) := by decide +kernel
theorem dX8_storeOf_6 : decode cX8_storeOf 6 = .ok (.if_icmp .lt 14, 3) := by decide +kernel
theorem dX8_storeOf_9 : decode cX8_storeOf 9 = .ok (.new 107, 3) := by decide +kernel
theorem dX8_storeOf_12 : decode cX8_storeOf 12 = .ok (.dup, 1) := by decide +kernel
theorem dX8_storeOf_13 : decode cX8_storeOf 13 = .ok (.ldc_w 277, 3) := by decide +kernel
theorem dX8_storeOf_16 : decode cX8_storeOf 16 = .ok (.invokespecial 111, 3) := by decide +kernel
theorem dX8_storeOf_19 : decode cX8_storeOf 19 = .ok (.athrow, 1) := by decide +kernel
theorem dX8_storeOf_20 : decode cX8_storeOf 20 = .ok (.aload_n 0, 1) := by decide +kernel
theorem dX8_storeOf_21 : decode cX8_storeOf 21 = .ok (.getfield 44, 3) := by decide +kernel
theorem dX8_storeOf_24 : decode cX8_storeOf 24 = .ok (.iload_n 1, 1) := by decide +kernel
theorem dX8_storeOf_25 : decode cX8_storeOf 25 = .ok (.aaload, 1) := by decide +kernel
theorem dX8_storeOf_26 : decode cX8_storeOf 26 = .ok (.areturn, 1) := by decide +kernel
theorem dX8_nameByRoot_0 : decode cX8_nameByRoot 0 = .ok (.aload_n 0, 1) := by decide +kernel
theorem dX8_nameByRoot_1 : decode cX8_nameByRoot 1 = .ok (.getfield 28, 3) := by decide +kernel
theorem dX8_nameByRoot_4 : decode cX8_nameByRoot 4 = .ok (.iload_n 1, 1) := by decide +kernel
theorem dX8_nameByRoot_5 : decode cX8_nameByRoot 5 = .ok (.invokevirtual 279, 3) := by decide +kernel
theorem dX8_nameByRoot_8 : decode cX8_nameByRoot 8 = .ok (.istore_n 3, 1) := by decide +kernel
theorem dX8_nameByRoot_9 : decode cX8_nameByRoot 9 = .ok (.iload_n 3, 1) := by decide +kernel
theorem dX8_nameByRoot_10 : decode cX8_nameByRoot 10 = .ok (.iload_n 2, 1) := by decide +kernel
theorem dX8_nameByRoot_11 : decode cX8_nameByRoot 11 = .ok (.if_icmp .eq 19, 3) := by decide +kernel
theorem dX8_nameByRoot_14 : decode cX8_nameByRoot 14 = .ok (.aload_n 0, 1) := by decide +kernel
theorem dX8_nameByRoot_15 : decode cX8_nameByRoot 15 = .ok (.getfield 28, 3) := by decide +kernel
theorem dX8_nameByRoot_18 : decode cX8_nameByRoot 18 = .ok (.iload_n 1, 1) := by decide +kernel
theorem dX8_nameByRoot_19 : decode cX8_nameByRoot 19 = .ok (.iload_n 2, 1) := by decide +kernel
theorem dX8_nameByRoot_20 : decode cX8_nameByRoot 20 = .ok (.invokevirtual 282, 3) := by decide +kernel
theorem dX8_nameByRoot_23 : decode cX8_nameByRoot 23 = .ok (.aload_n 0, 1) := by decide +kernel
theorem dX8_nameByRoot_24 : decode cX8_nameByRoot 24 = .ok (.iconst (-1), 1) := by decide +kernel
theorem dX8_nameByRoot_25 : decode cX8_nameByRoot 25 = .ok (.iload_n 3, 1) := by decide +kernel
theorem dX8_nameByRoot_26 : decode cX8_nameByRoot 26 = .ok (.iload_n 2, 1) := by decide +kernel
theorem dX8_nameByRoot_27 : decode cX8_nameByRoot 27 = .ok (.invokevirtual 122, 3) := by decide +kernel
theorem dX8_nameByRoot_30 : decode cX8_nameByRoot 30 = .ok (.iload_n 3, 1) := by decide +kernel
theorem dX8_nameByRoot_31 : decode cX8_nameByRoot 31 = .ok (.ireturn, 1) := by decide +kernel
theorem dX8_tellStores_0 : decode cX8_tellStores 0 = .ok (.iconst 0, 1) := by decide +kernel
theorem dX8_tellStores_1 : decode cX8_tellStores 1 = .ok (.istore 4, 2) := by decide +kernel
theorem dX8_tellStores_3 : decode cX8_tellStores 3 = .ok (.iload 4, 2) := by decide +kernel
theorem dX8_tellStores_5 : decode cX8_tellStores 5 = .ok (.iconst 4, 1) := by decide +kernel
theorem dX8_tellStores_6 : decode cX8_tellStores 6 = .ok (.if_icmp .ge 35, 3) := by decide +kernel
theorem dX8_tellStores_9 : decode cX8_tellStores 9 = .ok (.aload_n 0, 1) := by decide +kernel
theorem dX8_tellStores_10 : decode cX8_tellStores 10 = .ok (.getfield 44, 3) := by decide +kernel
theorem dX8_tellStores_13 : decode cX8_tellStores 13 = .ok (.iload 4, 2) := by decide +kernel
theorem dX8_tellStores_15 : decode cX8_tellStores 15 = .ok (.aaload, 1) := by decide +kernel
theorem dX8_tellStores_16 : decode cX8_tellStores 16 = .ok (.getfield 85, 3) := by decide +kernel
theorem dX8_tellStores_19 : decode cX8_tellStores 19 = .ok (.ifCond .ne 16, 3) := by decide +kernel
theorem dX8_tellStores_22 : decode cX8_tellStores 22 = .ok (.aload_n 0, 1) := by decide +kernel
theorem dX8_tellStores_23 : decode cX8_tellStores 23 = .ok (.getfield 44, 3) := by decide +kernel
theorem dX8_tellStores_26 : decode cX8_tellStores 26 = .ok (.iload 4, 2) := by decide +kernel
theorem dX8_tellStores_28 : decode cX8_tellStores 28 = .ok (.aaload, 1) := by decide +kernel
theorem dX8_tellStores_29 : decode cX8_tellStores 29 = .ok (.iload_n 1, 1) := by decide +kernel
theorem dX8_tellStores_30 : decode cX8_tellStores 30 = .ok (.iload_n 2, 1) := by decide +kernel
theorem dX8_tellStores_31 : decode cX8_tellStores 31 = .ok (.iload_n 3, 1) := by decide +kernel
theorem dX8_tellStores_32 : decode cX8_tellStores 32 = .ok (.invokevirtual 284, 3) := by decide +kernel
theorem dX8_tellStores_35 : decode cX8_tellStores 35 = .ok (.iinc 4 1, 3) := by decide +kernel
theorem dX8_tellStores_38 : decode cX8_tellStores 38 = .ok (.goto (-35), 3) := by decide +kernel
theorem dX8_tellStores_41 : decode cX8_tellStores 41 = .ok (.return_, 1) := by decide +kernel
theorem dX8_openPauses_0 : decode cX8_openPauses 0 = .ok (.iconst 0, 1) := by decide +kernel
theorem dX8_openPauses_1 : decode cX8_openPauses 1 = .ok (.istore_n 1, 1) := by decide +kernel
theorem dX8_openPauses_2 : decode cX8_openPauses 2 = .ok (.iload_n 1, 1) := by decide +kernel
theorem dX8_openPauses_3 : decode cX8_openPauses 3 = .ok (.iconst 4, 1) := by decide +kernel
theorem dX8_openPauses_4 : decode cX8_openPauses 4 = .ok (.if_icmp .ge 18, 3) := by decide +kernel
theorem dX8_openPauses_7 : decode cX8_openPauses 7 = .ok (.aload_n 0, 1) := by decide +kernel
theorem dX8_openPauses_8 : decode cX8_openPauses 8 = .ok (.getfield 44, 3) := by decide +kernel
theorem dX8_openPauses_11 : decode cX8_openPauses 11 = .ok (.iload_n 1, 1) := by decide +kernel
theorem dX8_openPauses_12 : decode cX8_openPauses 12 = .ok (.aaload, 1) := by decide +kernel
theorem dX8_openPauses_13 : decode cX8_openPauses 13 = .ok (.invokevirtual 148, 3) := by decide +kernel
theorem dX8_openPauses_16 : decode cX8_openPauses 16 = .ok (.iinc 1 1, 3) := by decide +kernel
theorem dX8_openPauses_19 : decode cX8_openPauses 19 = .ok (.goto (-17), 3) := by decide +kernel
theorem dX8_openPauses_22 : decode cX8_openPauses 22 = .ok (.return_, 1) := by decide +kernel
theorem dX8_closePauses_0 : decode cX8_closePauses 0 = .ok (.iconst 0, 1) := by decide +kernel
theorem dX8_closePauses_1 : decode cX8_closePauses 1 = .ok (.istore_n 1, 1) := by decide +kernel
theorem dX8_closePauses_2 : decode cX8_closePauses 2 = .ok (.iload_n 1, 1) := by decide +kernel
theorem dX8_closePauses_3 : decode cX8_closePauses 3 = .ok (.iconst 4, 1) := by decide +kernel
theorem dX8_closePauses_4 : decode cX8_closePauses 4 = .ok (.if_icmp .ge 18, 3) := by decide +kernel
theorem dX8_closePauses_7 : decode cX8_closePauses 7 = .ok (.aload_n 0, 1) := by decide +kernel
theorem dX8_closePauses_8 : decode cX8_closePauses 8 = .ok (.getfield 44, 3) := by decide +kernel
theorem dX8_closePauses_11 : decode cX8_closePauses 11 = .ok (.iload_n 1, 1) := by decide +kernel
theorem dX8_closePauses_12 : decode cX8_closePauses 12 = .ok (.aaload, 1) := by decide +kernel
theorem dX8_closePauses_13 : decode cX8_closePauses 13 = .ok (.invokevirtual 155, 3) := by decide +kernel
theorem dX8_closePauses_16 : decode cX8_closePauses 16 = .ok (.iinc 1 1, 3) := by decide +kernel
theorem dX8_closePauses_19 : decode cX8_closePauses 19 = .ok (.goto (-17), 3) := by decide +kernel
theorem dX8_closePauses_22 : decode cX8_closePauses 22 = .ok (.return_, 1) := by decide +kernel
theorem dJ9_max_7cf53_0 : decode cJ9_max_7cf53 0 = .ok (.iload_n 0, 1) := by decide +kernel
theorem dJ9_max_7cf53_1 : decode cJ9_max_7cf53 1 = .ok (.iload_n 1, 1) := by decide +kernel
theorem dJ9_max_7cf53_2 : decode cJ9_max_7cf53 2 = .ok (.if_icmp .lt 7, 3) := by decide +kernel
theorem dJ9_max_7cf53_5 : decode cJ9_max_7cf53 5 = .ok (.iload_n 0, 1) := by decide +kernel
theorem dJ9_max_7cf53_6 : decode cJ9_max_7cf53 6 = .ok (.goto 4, 3) := by decide +kernel
theorem dJ9_max_7cf53_9 : decode cJ9_max_7cf53 9 = .ok (.iload_n 1, 1) := by decide +kernel
theorem dJ9_max_7cf53_10 : decode cJ9_max_7cf53 10 = .ok (.ireturn, 1) := by decide +kernel
theorem dJ7_fill_53178_0 : decode cJ7_fill_53178 0 = .ok (.iconst 0, 1) := by decide +kernel
theorem dJ7_fill_53178_1 : decode cJ7_fill_53178 1 = .ok (.istore_n 2, 1) := by decide +kernel
theorem dJ7_fill_53178_2 : decode cJ7_fill_53178 2 = .ok (.aload_n 0, 1) := by decide +kernel
theorem dJ7_fill_53178_3 : decode cJ7_fill_53178 3 = .ok (.arraylength, 1) := by decide +kernel
theorem dJ7_fill_53178_4 : decode cJ7_fill_53178 4 = .ok (.istore_n 3, 1) := by decide +kernel
theorem dJ7_fill_53178_5 : decode cJ7_fill_53178 5 = .ok (.iload_n 2, 1) := by decide +kernel
theorem dJ7_fill_53178_6 : decode cJ7_fill_53178 6 = .ok (.iload_n 3, 1) := by decide +kernel
theorem dJ7_fill_53178_7 : decode cJ7_fill_53178 7 = .ok (.if_icmp .ge 13, 3) := by decide +kernel
theorem dJ7_fill_53178_10 : decode cJ7_fill_53178 10 = .ok (.aload_n 0, 1) := by decide +kernel
theorem dJ7_fill_53178_11 : decode cJ7_fill_53178 11 = .ok (.iload_n 2, 1) := by decide +kernel
theorem dJ7_fill_53178_12 : decode cJ7_fill_53178 12 = .ok (.iload_n 1, 1) := by decide +kernel
theorem dJ7_fill_53178_13 : decode cJ7_fill_53178 13 = .ok (.iastore, 1) := by decide +kernel
theorem dJ7_fill_53178_14 : decode cJ7_fill_53178 14 = .ok (.iinc 2 1, 3) := by decide +kernel
theorem dJ7_fill_53178_17 : decode cJ7_fill_53178 17 = .ok (.goto (-12), 3) := by decide +kernel
theorem dJ7_fill_53178_20 : decode cJ7_fill_53178 20 = .ok (.return_, 1) := by decide +kernel
theorem dL_below_0 : decode cL_below 0 = .ok (.iload_n 0, 1) := by decide +kernel
theorem dL_below_1 : decode cL_below 1 = .ok (.ldc 7, 2) := by decide +kernel
theorem dL_below_3 : decode cL_below 3 = .ok (.iand, 1) := by decide +kernel
theorem dL_below_4 : decode cL_below 4 = .ok (.iload_n 1, 1) := by decide +kernel
theorem dL_below_5 : decode cL_below 5 = .ok (.irem, 1) := by decide +kernel
theorem dL_below_6 : decode cL_below 6 = .ok (.ireturn, 1) := by decide +kernel
theorem dL_cell_0 : decode cL_cell 0 = .ok (.iload_n 1, 1) := by decide +kernel
theorem dL_cell_1 : decode cL_cell 1 = .ok (.aload_n 0, 1) := by decide +kernel
theorem dL_cell_2 : decode cL_cell 2 = .ok (.arraylength, 1) := by decide +kernel
theorem dL_cell_3 : decode cL_cell 3 = .ok (.if_icmp .ge 9, 3) := by decide +kernel
theorem dL_cell_6 : decode cL_cell 6 = .ok (.aload_n 0, 1) := by decide +kernel
theorem dL_cell_7 : decode cL_cell 7 = .ok (.iload_n 1, 1) := by decide +kernel
theorem dL_cell_8 : decode cL_cell 8 = .ok (.iaload, 1) := by decide +kernel
theorem dL_cell_9 : decode cL_cell 9 = .ok (.goto 9, 3) := by decide +kernel
theorem dL_cell_12 : decode cL_cell 12 = .ok (.ldc 8, 2) := by decide +kernel
theorem dL_cell_14 : decode cL_cell 14 = .ok (.iload_n 1, 1) := by decide +kernel
theorem dL_cell_15 : decode cL_cell 15 = .ok (.iconst 3, 1) := by decide +kernel
theorem dL_cell_16 : decode cL_cell 16 = .ok (.iadd, 1) := by decide +kernel
theorem dL_cell_17 : decode cL_cell 17 = .ok (.imul, 1) := by decide +kernel
theorem dL_cell_18 : decode cL_cell 18 = .ok (.ireturn, 1) := by decide +kernel
theorem dL_law_0 : decode cL_law 0 = .ok (.new 9, 3) := by decide +kernel
theorem dL_law_3 : decode cL_law 3 = .ok (.dup, 1) := by decide +kernel
theorem dL_law_4 : decode cL_law 4 = .ok (.invokespecial 11, 3) := by decide +kernel
theorem dL_law_7 : decode cL_law 7 = .ok (.astore_n 1, 1) := by decide +kernel
theorem dL_law_8 : decode cL_law 8 = .ok (.bipush 40, 2) := by decide +kernel
theorem dL_law_10 : decode cL_law 10 = .ok (.aload_n 0, 1) := by decide +kernel
theorem dL_law_11 : decode cL_law 11 = .ok (.iconst 0, 1) := by decide +kernel
theorem dL_law_12 : decode cL_law 12 = .ok (.invokestatic 12, 3) := by decide +kernel
theorem dL_law_15 : decode cL_law 15 = .ok (.bipush 60, 2) := by decide +kernel
theorem dL_law_17 : decode cL_law 17 = .ok (.invokestatic 18, 3) := by decide +kernel
theorem dL_law_20 : decode cL_law 20 = .ok (.iadd, 1) := by decide +kernel
theorem dL_law_21 : decode cL_law 21 = .ok (.istore_n 2, 1) := by decide +kernel
theorem dL_law_22 : decode cL_law 22 = .ok (.aload_n 1, 1) := by decide +kernel
theorem dL_law_23 : decode cL_law 23 = .ok (.iload_n 2, 1) := by decide +kernel
theorem dL_law_24 : decode cL_law 24 = .ok (.invokevirtual 22, 3) := by decide +kernel
theorem dL_law_27 : decode cL_law 27 = .ok (.bipush 64, 2) := by decide +kernel
theorem dL_law_29 : decode cL_law 29 = .ok (.if_icmp .eq 5, 3) := by decide +kernel
theorem dL_law_32 : decode cL_law 32 = .ok (.iconst 0, 1) := by decide +kernel
theorem dL_law_33 : decode cL_law 33 = .ok (.ireturn, 1) := by decide +kernel
theorem dL_law_34 : decode cL_law 34 = .ok (.iconst 4, 1) := by decide +kernel
theorem dL_law_35 : decode cL_law 35 = .ok (.newarray .int, 2) := by decide +kernel
theorem dL_law_37 : decode cL_law 37 = .ok (.astore_n 3, 1) := by decide +kernel
theorem dL_law_38 : decode cL_law 38 = .ok (.iconst 0, 1) := by decide +kernel
theorem dL_law_39 : decode cL_law 39 = .ok (.istore 4, 2) := by decide +kernel
theorem dL_law_41 : decode cL_law 41 = .ok (.iload 4, 2) := by decide +kernel
theorem dL_law_43 : decode cL_law 43 = .ok (.bipush 40, 2) := by decide +kernel
theorem dL_law_45 : decode cL_law 45 = .ok (.if_icmp .ge 749, 3) := by decide +kernel
theorem dL_law_48 : decode cL_law 48 = .ok (.aload_n 0, 1) := by decide +kernel
theorem dL_law_49 : decode cL_law 49 = .ok (.iload 4, 2) := by decide +kernel
theorem dL_law_51 : decode cL_law 51 = .ok (.bipush 16, 2) := by decide +kernel
theorem dL_law_53 : decode cL_law 53 = .ok (.irem, 1) := by decide +kernel
theorem dL_law_54 : decode cL_law 54 = .ok (.invokestatic 12, 3) := by decide +kernel
theorem dL_law_57 : decode cL_law 57 = .ok (.iload 4, 2) := by decide +kernel
theorem dL_law_59 : decode cL_law 59 = .ok (.bipush 16, 2) := by decide +kernel
theorem dL_law_61 : decode cL_law 61 = .ok (.idiv, 1) := by decide +kernel
theorem dL_law_62 : decode cL_law 62 = .ok (.iconst 2, 1) := by decide +kernel
theorem dL_law_63 : decode cL_law 63 = .ok (.imul, 1) := by decide +kernel
theorem dL_law_64 : decode cL_law 64 = .ok (.ishr, 1) := by decide +kernel
theorem dL_law_65 : decode cL_law 65 = .ok (.iconst 5, 1) := by decide +kernel
theorem dL_law_66 : decode cL_law 66 = .ok (.iload 4, 2) := by decide +kernel
theorem dL_law_68 : decode cL_law 68 = .ok (.imul, 1) := by decide +kernel
theorem dL_law_69 : decode cL_law 69 = .ok (.iadd, 1) := by decide +kernel
theorem dL_law_70 : decode cL_law 70 = .ok (.istore 5, 2) := by decide +kernel
theorem dL_law_72 : decode cL_law 72 = .ok (.aload_n 1, 1) := by decide +kernel
theorem dL_law_73 : decode cL_law 73 = .ok (.invokevirtual 26, 3) := by decide +kernel
theorem dL_law_76 : decode cL_law 76 = .ok (.istore 6, 2) := by decide +kernel
theorem dL_law_78 : decode cL_law 78 = .ok (.iload 6, 2) := by decide +kernel
theorem dL_law_80 : decode cL_law 80 = .ok (.ifCond .ne 7, 3) := by decide +kernel
theorem dL_law_83 : decode cL_law 83 = .ok (.iconst 0, 1) := by decide +kernel
theorem dL_law_84 : decode cL_law 84 = .ok (.goto 12, 3) := by decide +kernel
theorem dL_law_87 : decode cL_law 87 = .ok (.iload 5, 2) := by decide +kernel
theorem dL_law_89 : decode cL_law 89 = .ok (.iconst 3, 1) := by decide +kernel
theorem dL_law_90 : decode cL_law 90 = .ok (.ishr, 1) := by decide +kernel
theorem dL_law_91 : decode cL_law 91 = .ok (.iload 6, 2) := by decide +kernel
theorem dL_law_93 : decode cL_law 93 = .ok (.invokestatic 18, 3) := by decide +kernel
theorem dL_law_96 : decode cL_law 96 = .ok (.istore 7, 2) := by decide +kernel
theorem dL_law_98 : decode cL_law 98 = .ok (.iload 6, 2) := by decide +kernel
theorem dL_law_100 : decode cL_law 100 = .ok (.ifCond .ne 7, 3) := by decide +kernel
theorem dL_law_103 : decode cL_law 103 = .ok (.iconst 0, 1) := by decide +kernel
theorem dL_law_104 : decode cL_law 104 = .ok (.goto 12, 3) := by decide +kernel
theorem dL_law_107 : decode cL_law 107 = .ok (.iload 5, 2) := by decide +kernel
theorem dL_law_109 : decode cL_law 109 = .ok (.iconst 5, 1) := by decide +kernel
theorem dL_law_110 : decode cL_law 110 = .ok (.ishr, 1) := by decide +kernel
theorem dL_law_111 : decode cL_law 111 = .ok (.iload 6, 2) := by decide +kernel
theorem dL_law_113 : decode cL_law 113 = .ok (.invokestatic 18, 3) := by decide +kernel
theorem dL_law_116 : decode cL_law 116 = .ok (.istore 8, 2) := by decide +kernel
theorem dL_law_118 : decode cL_law 118 = .ok (.iload 5, 2) := by decide +kernel
theorem dL_law_120 : decode cL_law 120 = .ok (.bipush 8, 2) := by decide +kernel
theorem dL_law_122 : decode cL_law 122 = .ok (.invokestatic 18, 3) := by decide +kernel
theorem dL_law_125 : decode cL_law 125 = .ok (.istore 9, 2) := by decide +kernel
theorem dL_law_127 : decode cL_law 127 = .ok (.iload 9, 2) := by decide +kernel
theorem dL_law_129 : decode cL_law 129 = .ok (.iconst 4, 1) := by decide +kernel
theorem dL_law_130 : decode cL_law 130 = .ok (.if_icmp .lt 8, 3) := by decide +kernel
theorem dL_law_133 : decode cL_law 133 = .ok (.iload 6, 2) := by decide +kernel
theorem dL_law_135 : decode cL_law 135 = .ok (.ifCond .ne 31, 3) := by decide +kernel
theorem dL_law_138 : decode cL_law 138 = .ok (.aload_n 1, 1) := by decide +kernel
theorem dL_law_139 : decode cL_law 139 = .ok (.iload 5, 2) := by decide +kernel
theorem dL_law_141 : decode cL_law 141 = .ok (.iconst 2, 1) := by decide +kernel
theorem dL_law_142 : decode cL_law 142 = .ok (.ishr, 1) := by decide +kernel
theorem dL_law_143 : decode cL_law 143 = .ok (.iconst 4, 1) := by decide +kernel
theorem dL_law_144 : decode cL_law 144 = .ok (.invokestatic 18, 3) := by decide +kernel
theorem dL_law_147 : decode cL_law 147 = .ok (.iload 5, 2) := by decide +kernel
theorem dL_law_149 : decode cL_law 149 = .ok (.iconst 4, 1) := by decide +kernel
theorem dL_law_150 : decode cL_law 150 = .ok (.ishr, 1) := by decide +kernel
theorem dL_law_151 : decode cL_law 151 = .ok (.bipush 6, 2) := by decide +kernel
theorem dL_law_153 : decode cL_law 153 = .ok (.invokestatic 18, 3) := by decide +kernel
theorem dL_law_156 : decode cL_law 156 = .ok (.invokevirtual 30, 3) := by decide +kernel
theorem dL_law_159 : decode cL_law 159 = .ok (.iload 6, 2) := by decide +kernel
theorem dL_law_161 : decode cL_law 161 = .ok (.if_icmp .eq 103, 3) := by decide +kernel
theorem dL_law_164 : decode cL_law 164 = .ok (.iconst 0, 1) := by decide +kernel
theorem dL_law_165 : decode cL_law 165 = .ok (.ireturn, 1) := by decide +kernel
theorem dL_law_166 : decode cL_law 166 = .ok (.iload 9, 2) := by decide +kernel
theorem dL_law_168 : decode cL_law 168 = .ok (.iconst 4, 1) := by decide +kernel
theorem dL_law_169 : decode cL_law 169 = .ok (.if_icmp .ne 21, 3) := by decide +kernel
theorem dL_law_172 : decode cL_law 172 = .ok (.aload_n 1, 1) := by decide +kernel
theorem dL_law_173 : decode cL_law 173 = .ok (.iload 5, 2) := by decide +kernel
theorem dL_law_175 : decode cL_law 175 = .ok (.iconst 4, 1) := by decide +kernel
theorem dL_law_176 : decode cL_law 176 = .ok (.ishr, 1) := by decide +kernel
theorem dL_law_177 : decode cL_law 177 = .ok (.bipush 6, 2) := by decide +kernel
theorem dL_law_179 : decode cL_law 179 = .ok (.invokestatic 18, 3) := by decide +kernel
theorem dL_law_182 : decode cL_law 182 = .ok (.iconst (-1), 1) := by decide +kernel
theorem dL_law_183 : decode cL_law 183 = .ok (.invokevirtual 33, 3) := by decide +kernel
theorem dL_law_186 : decode cL_law 186 = .ok (.pop, 1) := by decide +kernel
theorem dL_law_187 : decode cL_law 187 = .ok (.goto 77, 3) := by decide +kernel
theorem dL_law_190 : decode cL_law 190 = .ok (.aload_n 1, 1) := by decide +kernel
theorem dL_law_191 : decode cL_law 191 = .ok (.iload 7, 2) := by decide +kernel
theorem dL_law_193 : decode cL_law 193 = .ok (.iconst 1, 1) := by decide +kernel
theorem dL_law_194 : decode cL_law 194 = .ok (.invokevirtual 36, 3) := by decide +kernel
theorem dL_law_197 : decode cL_law 197 = .ok (.iconst 1, 1) := by decide +kernel
theorem dL_law_198 : decode cL_law 198 = .ok (.if_icmp .ne 66, 3) := by decide +kernel
theorem dL_law_201 : decode cL_law 201 = .ok (.aload_n 1, 1) := by decide +kernel
theorem dL_law_202 : decode cL_law 202 = .ok (.iload 8, 2) := by decide +kernel
theorem dL_law_204 : decode cL_law 204 = .ok (.iconst 1, 1) := by decide +kernel
theorem dL_law_205 : decode cL_law 205 = .ok (.invokevirtual 36, 3) := by decide +kernel
theorem dL_law_208 : decode cL_law 208 = .ok (.iconst 1, 1) := by decide +kernel
theorem dL_law_209 : decode cL_law 209 = .ok (.if_icmp .ne 55, 3) := by decide +kernel
theorem dL_law_212 : decode cL_law 212 = .ok (.aload_n 1, 1) := by decide +kernel
theorem dL_law_213 : decode cL_law 213 = .ok (.iload 7, 2) := by decide +kernel
theorem dL_law_215 : decode cL_law 215 = .ok (.iconst 0, 1) := by decide +kernel
theorem dL_law_216 : decode cL_law 216 = .ok (.invokevirtual 36, 3) := by decide +kernel
theorem dL_law_219 : decode cL_law 219 = .ok (.ifCond .le 45, 3) := by decide +kernel
theorem dL_law_222 : decode cL_law 222 = .ok (.iload 5, 2) := by decide +kernel
theorem dL_law_224 : decode cL_law 224 = .ok (.iconst 2, 1) := by decide +kernel
theorem dL_law_225 : decode cL_law 225 = .ok (.ishr, 1) := by decide +kernel
theorem dL_law_226 : decode cL_law 226 = .ok (.aload_n 1, 1) := by decide +kernel
theorem dL_law_227 : decode cL_law 227 = .ok (.iload 7, 2) := by decide +kernel
theorem dL_law_229 : decode cL_law 229 = .ok (.iconst 0, 1) := by decide +kernel
theorem dL_law_230 : decode cL_law 230 = .ok (.invokevirtual 36, 3) := by decide +kernel
theorem dL_law_233 : decode cL_law 233 = .ok (.invokestatic 18, 3) := by decide +kernel
theorem dL_law_236 : decode cL_law 236 = .ok (.istore 10, 2) := by decide +kernel
theorem dL_law_238 : decode cL_law 238 = .ok (.aload_n 1, 1) := by decide +kernel
theorem dL_law_239 : decode cL_law 239 = .ok (.iload 7, 2) := by decide +kernel
theorem dL_law_241 : decode cL_law 241 = .ok (.iload 10, 2) := by decide +kernel
theorem dL_law_243 : decode cL_law 243 = .ok (.iload 8, 2) := by decide +kernel
theorem dL_law_245 : decode cL_law 245 = .ok (.invokevirtual 39, 3) := by decide +kernel
theorem dL_law_248 : decode cL_law 248 = .ok (.pop, 1) := by decide +kernel
theorem dL_law_249 : decode cL_law 249 = .ok (.aload_n 1, 1) := by decide +kernel
theorem dL_law_250 : decode cL_law 250 = .ok (.iload 7, 2) := by decide +kernel
theorem dL_law_252 : decode cL_law 252 = .ok (.iload 10, 2) := by decide +kernel
theorem dL_law_254 : decode cL_law 254 = .ok (.invokevirtual 43, 3) := by decide +kernel
theorem dL_law_257 : decode cL_law 257 = .ok (.iload 8, 2) := by decide +kernel
theorem dL_law_259 : decode cL_law 259 = .ok (.if_icmp .eq 5, 3) := by decide +kernel
theorem dL_law_262 : decode cL_law 262 = .ok (.iconst 0, 1) := by decide +kernel
theorem dL_law_263 : decode cL_law 263 = .ok (.ireturn, 1) := by decide +kernel
theorem dL_law_264 : decode cL_law 264 = .ok (.iload 5, 2) := by decide +kernel
theorem dL_law_266 : decode cL_law 266 = .ok (.bipush 6, 2) := by decide +kernel
theorem dL_law_268 : decode cL_law 268 = .ok (.ishr, 1) := by decide +kernel
theorem dL_law_269 : decode cL_law 269 = .ok (.bipush 6, 2) := by decide +kernel
theorem dL_law_271 : decode cL_law 271 = .ok (.invokestatic 18, 3) := by decide +kernel
theorem dL_law_274 : decode cL_law 274 = .ok (.ifCond .ne 18, 3) := by decide +kernel
theorem dL_law_277 : decode cL_law 277 = .ok (.aload_n 1, 1) := by decide +kernel
theorem dL_law_278 : decode cL_law 278 = .ok (.iconst 1, 1) := by decide +kernel
theorem dL_law_279 : decode cL_law 279 = .ok (.iload 5, 2) := by decide +kernel
theorem dL_law_281 : decode cL_law 281 = .ok (.iconst 2, 1) := by decide +kernel
theorem dL_law_282 : decode cL_law 282 = .ok (.ishr, 1) := by decide +kernel
theorem dL_law_283 : decode cL_law 283 = .ok (.iconst 3, 1) := by decide +kernel
theorem dL_law_284 : decode cL_law 284 = .ok (.invokestatic 18, 3) := by decide +kernel
theorem dL_law_287 : decode cL_law 287 = .ok (.iadd, 1) := by decide +kernel
theorem dL_law_288 : decode cL_law 288 = .ok (.invokevirtual 46, 3) := by decide +kernel
theorem dL_law_291 : decode cL_law 291 = .ok (.pop, 1) := by decide +kernel
theorem dL_law_292 : decode cL_law 292 = .ok (.aload_n 1, 1) := by decide +kernel
theorem dL_law_293 : decode cL_law 293 = .ok (.invokevirtual 26, 3) := by decide +kernel
theorem dL_law_296 : decode cL_law 296 = .ok (.istore 6, 2) := by decide +kernel
theorem dL_law_298 : decode cL_law 298 = .ok (.iconst 0, 1) := by decide +kernel
theorem dL_law_299 : decode cL_law 299 = .ok (.istore 10, 2) := by decide +kernel
theorem dL_law_301 : decode cL_law 301 = .ok (.iload 10, 2) := by decide +kernel
theorem dL_law_303 : decode cL_law 303 = .ok (.iconst 4, 1) := by decide +kernel
theorem dL_law_304 : decode cL_law 304 = .ok (.if_icmp .ge 307, 3) := by decide +kernel
theorem dL_law_307 : decode cL_law 307 = .ok (.aload_n 1, 1) := by decide +kernel
theorem dL_law_308 : decode cL_law 308 = .ok (.iload 10, 2) := by decide +kernel
theorem dL_law_310 : decode cL_law 310 = .ok (.bipush 7, 2) := by decide +kernel
theorem dL_law_312 : decode cL_law 312 = .ok (.invokevirtual 49, 3) := by decide +kernel
theorem dL_law_315 : decode cL_law 315 = .ok (.iconst 1, 1) := by decide +kernel
theorem dL_law_316 : decode cL_law 316 = .ok (.if_icmp .ne 7, 3) := by decide +kernel
theorem dL_law_319 : decode cL_law 319 = .ok (.iconst 1, 1) := by decide +kernel
theorem dL_law_320 : decode cL_law 320 = .ok (.goto 4, 3) := by decide +kernel
theorem dL_law_323 : decode cL_law 323 = .ok (.iconst 0, 1) := by decide +kernel
theorem dL_law_324 : decode cL_law 324 = .ok (.istore 11, 2) := by decide +kernel
theorem dL_law_326 : decode cL_law 326 = .ok (.iload_n 2, 1) := by decide +kernel
theorem dL_law_327 : decode cL_law 327 = .ok (.newarray .boolean, 2) := by decide +kernel
theorem dL_law_329 : decode cL_law 329 = .ok (.astore 12, 2) := by decide +kernel
theorem dL_law_331 : decode cL_law 331 = .ok (.iconst 0, 1) := by decide +kernel
theorem dL_law_332 : decode cL_law 332 = .ok (.istore 13, 2) := by decide +kernel
theorem dL_law_334 : decode cL_law 334 = .ok (.iconst 0, 1) := by decide +kernel
theorem dL_law_335 : decode cL_law 335 = .ok (.istore 14, 2) := by decide +kernel
theorem dL_law_337 : decode cL_law 337 = .ok (.iconst 0, 1) := by decide +kernel
theorem dL_law_338 : decode cL_law 338 = .ok (.istore 15, 2) := by decide +kernel
theorem dL_law_340 : decode cL_law 340 = .ok (.iconst 0, 1) := by decide +kernel
theorem dL_law_341 : decode cL_law 341 = .ok (.istore 16, 2) := by decide +kernel
theorem dL_law_343 : decode cL_law 343 = .ok (.iload 16, 2) := by decide +kernel
theorem dL_law_345 : decode cL_law 345 = .ok (.iload 6, 2) := by decide +kernel
theorem dL_law_347 : decode cL_law 347 = .ok (.if_icmp .ge 143, 3) := by decide +kernel
theorem dL_law_350 : decode cL_law 350 = .ok (.aload_n 1, 1) := by decide +kernel
theorem dL_law_351 : decode cL_law 351 = .ok (.iload 10, 2) := by decide +kernel
theorem dL_law_353 : decode cL_law 353 = .ok (.iload 16, 2) := by decide +kernel
theorem dL_law_355 : decode cL_law 355 = .ok (.invokevirtual 52, 3) := by decide +kernel
theorem dL_law_358 : decode cL_law 358 = .ok (.istore 17, 2) := by decide +kernel
theorem dL_law_360 : decode cL_law 360 = .ok (.aload_n 1, 1) := by decide +kernel
theorem dL_law_361 : decode cL_law 361 = .ok (.iload 16, 2) := by decide +kernel
theorem dL_law_363 : decode cL_law 363 = .ok (.iconst 1, 1) := by decide +kernel
theorem dL_law_364 : decode cL_law 364 = .ok (.invokevirtual 36, 3) := by decide +kernel
theorem dL_law_367 : decode cL_law 367 = .ok (.iconst 1, 1) := by decide +kernel
theorem dL_law_368 : decode cL_law 368 = .ok (.if_icmp .ne 7, 3) := by decide +kernel
theorem dL_law_371 : decode cL_law 371 = .ok (.iconst 1, 1) := by decide +kernel
theorem dL_law_372 : decode cL_law 372 = .ok (.goto 4, 3) := by decide +kernel
theorem dL_law_375 : decode cL_law 375 = .ok (.iconst 0, 1) := by decide +kernel
theorem dL_law_376 : decode cL_law 376 = .ok (.istore 18, 2) := by decide +kernel
theorem dL_law_378 : decode cL_law 378 = .ok (.iload 17, 2) := by decide +kernel
theorem dL_law_380 : decode cL_law 380 = .ok (.ifCond .ge 16, 3) := by decide +kernel
theorem dL_law_383 : decode cL_law 383 = .ok (.iload 18, 2) := by decide +kernel
theorem dL_law_385 : decode cL_law 385 = .ok (.ifCond .eq 18, 3) := by decide +kernel
theorem dL_law_388 : decode cL_law 388 = .ok (.iload 11, 2) := by decide +kernel
theorem dL_law_390 : decode cL_law 390 = .ok (.ifCond .ne 13, 3) := by decide +kernel
theorem dL_law_393 : decode cL_law 393 = .ok (.goto 8, 3) := by decide +kernel
theorem dL_law_396 : decode cL_law 396 = .ok (.iload 11, 2) := by decide +kernel
theorem dL_law_398 : decode cL_law 398 = .ok (.ifCond .eq 5, 3) := by decide +kernel
theorem dL_law_401 : decode cL_law 401 = .ok (.iconst 0, 1) := by decide +kernel
theorem dL_law_402 : decode cL_law 402 = .ok (.ireturn, 1) := by decide +kernel
theorem dL_law_403 : decode cL_law 403 = .ok (.iload 17, 2) := by decide +kernel
theorem dL_law_405 : decode cL_law 405 = .ok (.ifCond .ge 6, 3) := by decide +kernel
theorem dL_law_408 : decode cL_law 408 = .ok (.goto 76, 3) := by decide +kernel
theorem dL_law_411 : decode cL_law 411 = .ok (.iinc 14 1, 3) := by decide +kernel
theorem dL_law_414 : decode cL_law 414 = .ok (.iload 15, 2) := by decide +kernel
theorem dL_law_416 : decode cL_law 416 = .ok (.iload 18, 2) := by decide +kernel
theorem dL_law_418 : decode cL_law 418 = .ok (.ifCond .eq 7, 3) := by decide +kernel
theorem dL_law_421 : decode cL_law 421 = .ok (.iconst 0, 1) := by decide +kernel
theorem dL_law_422 : decode cL_law 422 = .ok (.goto 4, 3) := by decide +kernel
theorem dL_law_425 : decode cL_law 425 = .ok (.iconst 1, 1) := by decide +kernel
theorem dL_law_426 : decode cL_law 426 = .ok (.iadd, 1) := by decide +kernel
theorem dL_law_427 : decode cL_law 427 = .ok (.istore 15, 2) := by decide +kernel
theorem dL_law_429 : decode cL_law 429 = .ok (.iconst 0, 1) := by decide +kernel
theorem dL_law_430 : decode cL_law 430 = .ok (.istore 19, 2) := by decide +kernel
theorem dL_law_432 : decode cL_law 432 = .ok (.iload 19, 2) := by decide +kernel
theorem dL_law_434 : decode cL_law 434 = .ok (.aload_n 1, 1) := by decide +kernel
theorem dL_law_435 : decode cL_law 435 = .ok (.iload 16, 2) := by decide +kernel
theorem dL_law_437 : decode cL_law 437 = .ok (.iconst 0, 1) := by decide +kernel
theorem dL_law_438 : decode cL_law 438 = .ok (.invokevirtual 36, 3) := by decide +kernel
theorem dL_law_441 : decode cL_law 441 = .ok (.if_icmp .gt 43, 3) := by decide +kernel
theorem dL_law_444 : decode cL_law 444 = .ok (.iload 17, 2) := by decide +kernel
theorem dL_law_446 : decode cL_law 446 = .ok (.iload 19, 2) := by decide +kernel
theorem dL_law_448 : decode cL_law 448 = .ok (.iadd, 1) := by decide +kernel
theorem dL_law_449 : decode cL_law 449 = .ok (.iload_n 2, 1) := by decide +kernel
theorem dL_law_450 : decode cL_law 450 = .ok (.if_icmp .ge 14, 3) := by decide +kernel
theorem dL_law_453 : decode cL_law 453 = .ok (.aload 12, 2) := by decide +kernel
theorem dL_law_455 : decode cL_law 455 = .ok (.iload 17, 2) := by decide +kernel
theorem dL_law_457 : decode cL_law 457 = .ok (.iload 19, 2) := by decide +kernel
theorem dL_law_459 : decode cL_law 459 = .ok (.iadd, 1) := by decide +kernel
theorem dL_law_460 : decode cL_law 460 = .ok (.baload, 1) := by decide +kernel
theorem dL_law_461 : decode cL_law 461 = .ok (.ifCond .eq 5, 3) := by decide +kernel
theorem dL_law_464 : decode cL_law 464 = .ok (.iconst 0, 1) := by decide +kernel
theorem dL_law_465 : decode cL_law 465 = .ok (.ireturn, 1) := by decide +kernel
theorem dL_law_466 : decode cL_law 466 = .ok (.aload 12, 2) := by decide +kernel
theorem dL_law_468 : decode cL_law 468 = .ok (.iload 17, 2) := by decide +kernel
theorem dL_law_470 : decode cL_law 470 = .ok (.iload 19, 2) := by decide +kernel
theorem dL_law_472 : decode cL_law 472 = .ok (.iadd, 1) := by decide +kernel
theorem dL_law_473 : decode cL_law 473 = .ok (.iconst 1, 1) := by decide +kernel
theorem dL_law_474 : decode cL_law 474 = .ok (.bastore, 1) := by decide +kernel
theorem dL_law_475 : decode cL_law 475 = .ok (.iinc 13 1, 3) := by decide +kernel
theorem dL_law_478 : decode cL_law 478 = .ok (.iinc 19 1, 3) := by decide +kernel
theorem dL_law_481 : decode cL_law 481 = .ok (.goto (-49), 3) := by decide +kernel
theorem dL_law_484 : decode cL_law 484 = .ok (.iinc 16 1, 3) := by decide +kernel
theorem dL_law_487 : decode cL_law 487 = .ok (.goto (-144), 3) := by decide +kernel
theorem dL_law_490 : decode cL_law 490 = .ok (.aload_n 1, 1) := by decide +kernel
theorem dL_law_491 : decode cL_law 491 = .ok (.iload 10, 2) := by decide +kernel
theorem dL_law_493 : decode cL_law 493 = .ok (.iconst 0, 1) := by decide +kernel
theorem dL_law_494 : decode cL_law 494 = .ok (.invokevirtual 49, 3) := by decide +kernel
theorem dL_law_497 : decode cL_law 497 = .ok (.iload 14, 2) := by decide +kernel
theorem dL_law_499 : decode cL_law 499 = .ok (.if_icmp .ne 93, 3) := by decide +kernel
theorem dL_law_502 : decode cL_law 502 = .ok (.aload_n 1, 1) := by decide +kernel
theorem dL_law_503 : decode cL_law 503 = .ok (.iload 10, 2) := by decide +kernel
theorem dL_law_505 : decode cL_law 505 = .ok (.iconst 1, 1) := by decide +kernel
theorem dL_law_506 : decode cL_law 506 = .ok (.invokevirtual 49, 3) := by decide +kernel
theorem dL_law_509 : decode cL_law 509 = .ok (.iload 13, 2) := by decide +kernel
theorem dL_law_511 : decode cL_law 511 = .ok (.if_icmp .ne 81, 3) := by decide +kernel
theorem dL_law_514 : decode cL_law 514 = .ok (.aload_n 1, 1) := by decide +kernel
theorem dL_law_515 : decode cL_law 515 = .ok (.iload 10, 2) := by decide +kernel
theorem dL_law_517 : decode cL_law 517 = .ok (.iconst 2, 1) := by decide +kernel
theorem dL_law_518 : decode cL_law 518 = .ok (.invokevirtual 49, 3) := by decide +kernel
theorem dL_law_521 : decode cL_law 521 = .ok (.iload 15, 2) := by decide +kernel
theorem dL_law_523 : decode cL_law 523 = .ok (.if_icmp .ne 69, 3) := by decide +kernel
theorem dL_law_526 : decode cL_law 526 = .ok (.aload_n 1, 1) := by decide +kernel
theorem dL_law_527 : decode cL_law 527 = .ok (.iload 10, 2) := by decide +kernel
theorem dL_law_529 : decode cL_law 529 = .ok (.iconst 3, 1) := by decide +kernel
theorem dL_law_530 : decode cL_law 530 = .ok (.invokevirtual 49, 3) := by decide +kernel
theorem dL_law_533 : decode cL_law 533 = .ok (.aload_n 3, 1) := by decide +kernel
theorem dL_law_534 : decode cL_law 534 = .ok (.iload 10, 2) := by decide +kernel
theorem dL_law_536 : decode cL_law 536 = .ok (.iaload, 1) := by decide +kernel
theorem dL_law_537 : decode cL_law 537 = .ok (.if_icmp .lt 55, 3) := by decide +kernel
theorem dL_law_540 : decode cL_law 540 = .ok (.aload_n 1, 1) := by decide +kernel
theorem dL_law_541 : decode cL_law 541 = .ok (.iload 10, 2) := by decide +kernel
theorem dL_law_543 : decode cL_law 543 = .ok (.iconst 4, 1) := by decide +kernel
theorem dL_law_544 : decode cL_law 544 = .ok (.invokevirtual 49, 3) := by decide +kernel
theorem dL_law_547 : decode cL_law 547 = .ok (.aload_n 1, 1) := by decide +kernel
theorem dL_law_548 : decode cL_law 548 = .ok (.iload 10, 2) := by decide +kernel
theorem dL_law_550 : decode cL_law 550 = .ok (.iconst 3, 1) := by decide +kernel
theorem dL_law_551 : decode cL_law 551 = .ok (.invokevirtual 49, 3) := by decide +kernel
theorem dL_law_554 : decode cL_law 554 = .ok (.aload_n 3, 1) := by decide +kernel
theorem dL_law_555 : decode cL_law 555 = .ok (.iload 10, 2) := by decide +kernel
theorem dL_law_557 : decode cL_law 557 = .ok (.iaload, 1) := by decide +kernel
theorem dL_law_558 : decode cL_law 558 = .ok (.isub, 1) := by decide +kernel
theorem dL_law_559 : decode cL_law 559 = .ok (.if_icmp .ge 16, 3) := by decide +kernel
theorem dL_law_562 : decode cL_law 562 = .ok (.iload 5, 2) := by decide +kernel
theorem dL_law_564 : decode cL_law 564 = .ok (.bipush 6, 2) := by decide +kernel
theorem dL_law_566 : decode cL_law 566 = .ok (.ishr, 1) := by decide +kernel
theorem dL_law_567 : decode cL_law 567 = .ok (.bipush 6, 2) := by decide +kernel
theorem dL_law_569 : decode cL_law 569 = .ok (.invokestatic 18, 3) := by decide +kernel
theorem dL_law_572 : decode cL_law 572 = .ok (.ifCond .gt 20, 3) := by decide +kernel
theorem dL_law_575 : decode cL_law 575 = .ok (.aload_n 1, 1) := by decide +kernel
theorem dL_law_576 : decode cL_law 576 = .ok (.iload 10, 2) := by decide +kernel
theorem dL_law_578 : decode cL_law 578 = .ok (.iconst 4, 1) := by decide +kernel
theorem dL_law_579 : decode cL_law 579 = .ok (.invokevirtual 49, 3) := by decide +kernel
theorem dL_law_582 : decode cL_law 582 = .ok (.aload_n 1, 1) := by decide +kernel
theorem dL_law_583 : decode cL_law 583 = .ok (.iload 10, 2) := by decide +kernel
theorem dL_law_585 : decode cL_law 585 = .ok (.iconst 3, 1) := by decide +kernel
theorem dL_law_586 : decode cL_law 586 = .ok (.invokevirtual 49, 3) := by decide +kernel
theorem dL_law_589 : decode cL_law 589 = .ok (.if_icmp .le 5, 3) := by decide +kernel
theorem dL_law_592 : decode cL_law 592 = .ok (.iconst 0, 1) := by decide +kernel
theorem dL_law_593 : decode cL_law 593 = .ok (.ireturn, 1) := by decide +kernel
theorem dL_law_594 : decode cL_law 594 = .ok (.aload_n 3, 1) := by decide +kernel
theorem dL_law_595 : decode cL_law 595 = .ok (.iload 10, 2) := by decide +kernel
theorem dL_law_597 : decode cL_law 597 = .ok (.aload_n 1, 1) := by decide +kernel
theorem dL_law_598 : decode cL_law 598 = .ok (.iload 10, 2) := by decide +kernel
theorem dL_law_600 : decode cL_law 600 = .ok (.iconst 3, 1) := by decide +kernel
theorem dL_law_601 : decode cL_law 601 = .ok (.invokevirtual 49, 3) := by decide +kernel
theorem dL_law_604 : decode cL_law 604 = .ok (.iastore, 1) := by decide +kernel
theorem dL_law_605 : decode cL_law 605 = .ok (.iinc 10 1, 3) := by decide +kernel
theorem dL_law_608 : decode cL_law 608 = .ok (.goto (-307), 3) := by decide +kernel
theorem dL_law_611 : decode cL_law 611 = .ok (.iconst 0, 1) := by decide +kernel
theorem dL_law_612 : decode cL_law 612 = .ok (.istore 10, 2) := by decide +kernel
theorem dL_law_614 : decode cL_law 614 = .ok (.iload 10, 2) := by decide +kernel
theorem dL_law_616 : decode cL_law 616 = .ok (.iload 6, 2) := by decide +kernel
theorem dL_law_618 : decode cL_law 618 = .ok (.if_icmp .ge 170, 3) := by decide +kernel
theorem dL_law_621 : decode cL_law 621 = .ok (.aload_n 1, 1) := by decide +kernel
theorem dL_law_622 : decode cL_law 622 = .ok (.iload 10, 2) := by decide +kernel
theorem dL_law_624 : decode cL_law 624 = .ok (.iconst 3, 1) := by decide +kernel
theorem dL_law_625 : decode cL_law 625 = .ok (.invokevirtual 55, 3) := by decide +kernel
theorem dL_law_628 : decode cL_law 628 = .ok (.istore 11, 2) := by decide +kernel
theorem dL_law_630 : decode cL_law 630 = .ok (.iload 11, 2) := by decide +kernel
theorem dL_law_632 : decode cL_law 632 = .ok (.ifCond .eq 29, 3) := by decide +kernel
theorem dL_law_635 : decode cL_law 635 = .ok (.iload 11, 2) := by decide +kernel
theorem dL_law_637 : decode cL_law 637 = .ok (.ifCond .ge 26, 3) := by decide +kernel
theorem dL_law_640 : decode cL_law 640 = .ok (.aload_n 1, 1) := by decide +kernel
theorem dL_law_641 : decode cL_law 641 = .ok (.iload 10, 2) := by decide +kernel
theorem dL_law_643 : decode cL_law 643 = .ok (.iconst 1, 1) := by decide +kernel
theorem dL_law_644 : decode cL_law 644 = .ok (.invokevirtual 36, 3) := by decide +kernel
theorem dL_law_647 : decode cL_law 647 = .ok (.iconst 1, 1) := by decide +kernel
theorem dL_law_648 : decode cL_law 648 = .ok (.if_icmp .ne 15, 3) := by decide +kernel
theorem dL_law_651 : decode cL_law 651 = .ok (.aload_n 1, 1) := by decide +kernel
theorem dL_law_652 : decode cL_law 652 = .ok (.iconst 3, 1) := by decide +kernel
theorem dL_law_653 : decode cL_law 653 = .ok (.bipush 7, 2) := by decide +kernel
theorem dL_law_655 : decode cL_law 655 = .ok (.invokevirtual 49, 3) := by decide +kernel
theorem dL_law_658 : decode cL_law 658 = .ok (.ifCond .ne 5, 3) := by decide +kernel
theorem dL_law_661 : decode cL_law 661 = .ok (.iconst 0, 1) := by decide +kernel
theorem dL_law_662 : decode cL_law 662 = .ok (.ireturn, 1) := by decide +kernel
theorem dL_law_663 : decode cL_law 663 = .ok (.iconst 0, 1) := by decide +kernel
theorem dL_law_664 : decode cL_law 664 = .ok (.istore 12, 2) := by decide +kernel
theorem dL_law_666 : decode cL_law 666 = .ok (.iconst 0, 1) := by decide +kernel
theorem dL_law_667 : decode cL_law 667 = .ok (.istore 13, 2) := by decide +kernel
theorem dL_law_669 : decode cL_law 669 = .ok (.iload 13, 2) := by decide +kernel
theorem dL_law_671 : decode cL_law 671 = .ok (.iload 6, 2) := by decide +kernel
theorem dL_law_673 : decode cL_law 673 = .ok (.if_icmp .ge 63, 3) := by decide +kernel
theorem dL_law_676 : decode cL_law 676 = .ok (.iconst 0, 1) := by decide +kernel
theorem dL_law_677 : decode cL_law 677 = .ok (.istore 14, 2) := by decide +kernel
theorem dL_law_679 : decode cL_law 679 = .ok (.iload 14, 2) := by decide +kernel
theorem dL_law_681 : decode cL_law 681 = .ok (.aload_n 1, 1) := by decide +kernel
theorem dL_law_682 : decode cL_law 682 = .ok (.iload 13, 2) := by decide +kernel
theorem dL_law_684 : decode cL_law 684 = .ok (.iconst 0, 1) := by decide +kernel
theorem dL_law_685 : decode cL_law 685 = .ok (.invokevirtual 36, 3) := by decide +kernel
theorem dL_law_688 : decode cL_law 688 = .ok (.if_icmp .ge 42, 3) := by decide +kernel
theorem dL_law_691 : decode cL_law 691 = .ok (.iload 12, 2) := by decide +kernel
theorem dL_law_693 : decode cL_law 693 = .ok (.aload_n 1, 1) := by decide +kernel
theorem dL_law_694 : decode cL_law 694 = .ok (.iconst 3, 1) := by decide +kernel
theorem dL_law_695 : decode cL_law 695 = .ok (.iload 13, 2) := by decide +kernel
theorem dL_law_697 : decode cL_law 697 = .ok (.invokevirtual 52, 3) := by decide +kernel
theorem dL_law_700 : decode cL_law 700 = .ok (.ifCond .lt 20, 3) := by decide +kernel
theorem dL_law_703 : decode cL_law 703 = .ok (.aload_n 1, 1) := by decide +kernel
theorem dL_law_704 : decode cL_law 704 = .ok (.iload 13, 2) := by decide +kernel
theorem dL_law_706 : decode cL_law 706 = .ok (.iload 14, 2) := by decide +kernel
theorem dL_law_708 : decode cL_law 708 = .ok (.invokevirtual 43, 3) := by decide +kernel
theorem dL_law_711 : decode cL_law 711 = .ok (.iload 10, 2) := by decide +kernel
theorem dL_law_713 : decode cL_law 713 = .ok (.if_icmp .ne 7, 3) := by decide +kernel
theorem dL_law_716 : decode cL_law 716 = .ok (.iconst 1, 1) := by decide +kernel
theorem dL_law_717 : decode cL_law 717 = .ok (.goto 4, 3) := by decide +kernel
theorem dL_law_720 : decode cL_law 720 = .ok (.iconst 0, 1) := by decide +kernel
theorem dL_law_721 : decode cL_law 721 = .ok (.iadd, 1) := by decide +kernel
theorem dL_law_722 : decode cL_law 722 = .ok (.istore 12, 2) := by decide +kernel
theorem dL_law_724 : decode cL_law 724 = .ok (.iinc 14 1, 3) := by decide +kernel
theorem dL_law_727 : decode cL_law 727 = .ok (.goto (-48), 3) := by decide +kernel
theorem dL_law_730 : decode cL_law 730 = .ok (.iinc 13 1, 3) := by decide +kernel
theorem dL_law_733 : decode cL_law 733 = .ok (.goto (-64), 3) := by decide +kernel
theorem dL_law_736 : decode cL_law 736 = .ok (.iload 11, 2) := by decide +kernel
theorem dL_law_738 : decode cL_law 738 = .ok (.ifCond .lt 20, 3) := by decide +kernel
theorem dL_law_741 : decode cL_law 741 = .ok (.iload 11, 2) := by decide +kernel
theorem dL_law_743 : decode cL_law 743 = .ok (.iload 12, 2) := by decide +kernel
theorem dL_law_745 : decode cL_law 745 = .ok (.if_icmp .lt 35, 3) := by decide +kernel
theorem dL_law_748 : decode cL_law 748 = .ok (.iload 11, 2) := by decide +kernel
theorem dL_law_750 : decode cL_law 750 = .ok (.iload 12, 2) := by decide +kernel
theorem dL_law_752 : decode cL_law 752 = .ok (.bipush 6, 2) := by decide +kernel
theorem dL_law_754 : decode cL_law 754 = .ok (.iadd, 1) := by decide +kernel
theorem dL_law_755 : decode cL_law 755 = .ok (.if_icmp .gt 25, 3) := by decide +kernel
theorem dL_law_758 : decode cL_law 758 = .ok (.aload_n 1, 1) := by decide +kernel
theorem dL_law_759 : decode cL_law 759 = .ok (.iload 10, 2) := by decide +kernel
theorem dL_law_761 : decode cL_law 761 = .ok (.iconst 2, 1) := by decide +kernel
theorem dL_law_762 : decode cL_law 762 = .ok (.invokevirtual 36, 3) := by decide +kernel
theorem dL_law_765 : decode cL_law 765 = .ok (.ifCond .ne 17, 3) := by decide +kernel
theorem dL_law_768 : decode cL_law 768 = .ok (.iload 11, 2) := by decide +kernel
theorem dL_law_770 : decode cL_law 770 = .ok (.iload 12, 2) := by decide +kernel
theorem dL_law_772 : decode cL_law 772 = .ok (.if_icmp .ne 10, 3) := by decide +kernel
theorem dL_law_775 : decode cL_law 775 = .ok (.iload 11, 2) := by decide +kernel
theorem dL_law_777 : decode cL_law 777 = .ok (.ifCond .lt 5, 3) := by decide +kernel
theorem dL_law_780 : decode cL_law 780 = .ok (.iconst 0, 1) := by decide +kernel
theorem dL_law_781 : decode cL_law 781 = .ok (.ireturn, 1) := by decide +kernel
theorem dL_law_782 : decode cL_law 782 = .ok (.iinc 10 1, 3) := by decide +kernel
theorem dL_law_785 : decode cL_law 785 = .ok (.goto (-171), 3) := by decide +kernel
theorem dL_law_788 : decode cL_law 788 = .ok (.iinc 4 1, 3) := by decide +kernel
theorem dL_law_791 : decode cL_law 791 = .ok (.goto (-750), 3) := by decide +kernel
theorem dL_law_794 : decode cL_law 794 = .ok (.aload_n 1, 1) := by decide +kernel
theorem dL_law_795 : decode cL_law 795 = .ok (.invokevirtual 58, 3) := by decide +kernel
theorem dL_law_798 : decode cL_law 798 = .ok (.lstore 4, 2) := by decide +kernel
theorem dL_law_800 : decode cL_law 800 = .ok (.iconst 4, 1) := by decide +kernel
theorem dL_law_801 : decode cL_law 801 = .ok (.newarray .int, 2) := by decide +kernel
theorem dL_law_803 : decode cL_law 803 = .ok (.astore 6, 2) := by decide +kernel
theorem dL_law_805 : decode cL_law 805 = .ok (.iconst 4, 1) := by decide +kernel
theorem dL_law_806 : decode cL_law 806 = .ok (.newarray .int, 2) := by decide +kernel
theorem dL_law_808 : decode cL_law 808 = .ok (.astore 7, 2) := by decide +kernel
theorem dL_law_810 : decode cL_law 810 = .ok (.iconst 0, 1) := by decide +kernel
theorem dL_law_811 : decode cL_law 811 = .ok (.istore 8, 2) := by decide +kernel
theorem dL_law_813 : decode cL_law 813 = .ok (.iload 8, 2) := by decide +kernel
theorem dL_law_815 : decode cL_law 815 = .ok (.iconst 4, 1) := by decide +kernel
theorem dL_law_816 : decode cL_law 816 = .ok (.if_icmp .ge 31, 3) := by decide +kernel
theorem dL_law_819 : decode cL_law 819 = .ok (.aload 6, 2) := by decide +kernel
theorem dL_law_821 : decode cL_law 821 = .ok (.iload 8, 2) := by decide +kernel
theorem dL_law_823 : decode cL_law 823 = .ok (.aload_n 1, 1) := by decide +kernel
theorem dL_law_824 : decode cL_law 824 = .ok (.iload 8, 2) := by decide +kernel
theorem dL_law_826 : decode cL_law 826 = .ok (.invokevirtual 62, 3) := by decide +kernel
theorem dL_law_829 : decode cL_law 829 = .ok (.iastore, 1) := by decide +kernel
theorem dL_law_830 : decode cL_law 830 = .ok (.aload 7, 2) := by decide +kernel
theorem dL_law_832 : decode cL_law 832 = .ok (.iload 8, 2) := by decide +kernel
theorem dL_law_834 : decode cL_law 834 = .ok (.aload_n 1, 1) := by decide +kernel
theorem dL_law_835 : decode cL_law 835 = .ok (.iload 8, 2) := by decide +kernel
theorem dL_law_837 : decode cL_law 837 = .ok (.invokevirtual 65, 3) := by decide +kernel
theorem dL_law_840 : decode cL_law 840 = .ok (.iastore, 1) := by decide +kernel
theorem dL_law_841 : decode cL_law 841 = .ok (.iinc 8 1, 3) := by decide +kernel
theorem dL_law_844 : decode cL_law 844 = .ok (.goto (-31), 3) := by decide +kernel
theorem dL_law_847 : decode cL_law 847 = .ok (.aload_n 1, 1) := by decide +kernel
theorem dL_law_848 : decode cL_law 848 = .ok (.invokevirtual 58, 3) := by decide +kernel
theorem dL_law_851 : decode cL_law 851 = .ok (.lload 4, 2) := by decide +kernel
theorem dL_law_853 : decode cL_law 853 = .ok (.lcmp, 1) := by decide +kernel
theorem dL_law_854 : decode cL_law 854 = .ok (.ifCond .eq 5, 3) := by decide +kernel
theorem dL_law_857 : decode cL_law 857 = .ok (.iconst 0, 1) := by decide +kernel
theorem dL_law_858 : decode cL_law 858 = .ok (.ireturn, 1) := by decide +kernel
theorem dL_law_859 : decode cL_law 859 = .ok (.iconst 0, 1) := by decide +kernel
theorem dL_law_860 : decode cL_law 860 = .ok (.istore 8, 2) := by decide +kernel
theorem dL_law_862 : decode cL_law 862 = .ok (.iload 8, 2) := by decide +kernel
theorem dL_law_864 : decode cL_law 864 = .ok (.iconst 4, 1) := by decide +kernel
theorem dL_law_865 : decode cL_law 865 = .ok (.if_icmp .ge 121, 3) := by decide +kernel
theorem dL_law_868 : decode cL_law 868 = .ok (.aload_n 1, 1) := by decide +kernel
theorem dL_law_869 : decode cL_law 869 = .ok (.iload 8, 2) := by decide +kernel
theorem dL_law_871 : decode cL_law 871 = .ok (.iconst 2, 1) := by decide +kernel
theorem dL_law_872 : decode cL_law 872 = .ok (.invokevirtual 49, 3) := by decide +kernel
theorem dL_law_875 : decode cL_law 875 = .ok (.istore 9, 2) := by decide +kernel
theorem dL_law_877 : decode cL_law 877 = .ok (.aload_n 1, 1) := by decide +kernel
theorem dL_law_878 : decode cL_law 878 = .ok (.iload 8, 2) := by decide +kernel
theorem dL_law_880 : decode cL_law 880 = .ok (.iconst 3, 1) := by decide +kernel
theorem dL_law_881 : decode cL_law 881 = .ok (.invokevirtual 49, 3) := by decide +kernel
theorem dL_law_884 : decode cL_law 884 = .ok (.istore 10, 2) := by decide +kernel
theorem dL_law_886 : decode cL_law 886 = .ok (.aload_n 1, 1) := by decide +kernel
theorem dL_law_887 : decode cL_law 887 = .ok (.iload 8, 2) := by decide +kernel
theorem dL_law_889 : decode cL_law 889 = .ok (.invokevirtual 68, 3) := by decide +kernel
theorem dL_law_892 : decode cL_law 892 = .ok (.aload 6, 2) := by decide +kernel
theorem dL_law_894 : decode cL_law 894 = .ok (.iload 8, 2) := by decide +kernel
theorem dL_law_896 : decode cL_law 896 = .ok (.iaload, 1) := by decide +kernel
theorem dL_law_897 : decode cL_law 897 = .ok (.if_icmp .ne 81, 3) := by decide +kernel
theorem dL_law_900 : decode cL_law 900 = .ok (.aload_n 1, 1) := by decide +kernel
theorem dL_law_901 : decode cL_law 901 = .ok (.iload 8, 2) := by decide +kernel
theorem dL_law_903 : decode cL_law 903 = .ok (.iconst 3, 1) := by decide +kernel
theorem dL_law_904 : decode cL_law 904 = .ok (.invokevirtual 49, 3) := by decide +kernel
theorem dL_law_907 : decode cL_law 907 = .ok (.iload 10, 2) := by decide +kernel
theorem dL_law_909 : decode cL_law 909 = .ok (.aload 7, 2) := by decide +kernel
theorem dL_law_911 : decode cL_law 911 = .ok (.iload 8, 2) := by decide +kernel
theorem dL_law_913 : decode cL_law 913 = .ok (.iaload, 1) := by decide +kernel
theorem dL_law_914 : decode cL_law 914 = .ok (.iadd, 1) := by decide +kernel
theorem dL_law_915 : decode cL_law 915 = .ok (.if_icmp .ne 63, 3) := by decide +kernel
theorem dL_law_918 : decode cL_law 918 = .ok (.aload 6, 2) := by decide +kernel
theorem dL_law_920 : decode cL_law 920 = .ok (.iload 8, 2) := by decide +kernel
theorem dL_law_922 : decode cL_law 922 = .ok (.iaload, 1) := by decide +kernel
theorem dL_law_923 : decode cL_law 923 = .ok (.iload 9, 2) := by decide +kernel
theorem dL_law_925 : decode cL_law 925 = .ok (.if_icmp .gt 53, 3) := by decide +kernel
theorem dL_law_928 : decode cL_law 928 = .ok (.iload 8, 2) := by decide +kernel
theorem dL_law_930 : decode cL_law 930 = .ok (.iconst 2, 1) := by decide +kernel
theorem dL_law_931 : decode cL_law 931 = .ok (.if_icmp .ge 13, 3) := by decide +kernel
theorem dL_law_934 : decode cL_law 934 = .ok (.aload_n 1, 1) := by decide +kernel
theorem dL_law_935 : decode cL_law 935 = .ok (.iload 8, 2) := by decide +kernel
theorem dL_law_937 : decode cL_law 937 = .ok (.iconst 2, 1) := by decide +kernel
theorem dL_law_938 : decode cL_law 938 = .ok (.invokevirtual 49, 3) := by decide +kernel
theorem dL_law_941 : decode cL_law 941 = .ok (.ifCond .ne 37, 3) := by decide +kernel
theorem dL_law_944 : decode cL_law 944 = .ok (.aload_n 1, 1) := by decide +kernel
theorem dL_law_945 : decode cL_law 945 = .ok (.iload 8, 2) := by decide +kernel
theorem dL_law_947 : decode cL_law 947 = .ok (.iconst 2, 1) := by decide +kernel
theorem dL_law_948 : decode cL_law 948 = .ok (.invokevirtual 49, 3) := by decide +kernel
theorem dL_law_951 : decode cL_law 951 = .ok (.aload_n 1, 1) := by decide +kernel
theorem dL_law_952 : decode cL_law 952 = .ok (.iload 8, 2) := by decide +kernel
theorem dL_law_954 : decode cL_law 954 = .ok (.bipush 7, 2) := by decide +kernel
theorem dL_law_956 : decode cL_law 956 = .ok (.invokevirtual 49, 3) := by decide +kernel
theorem dL_law_959 : decode cL_law 959 = .ok (.iconst 1, 1) := by decide +kernel
theorem dL_law_960 : decode cL_law 960 = .ok (.if_icmp .ne 7, 3) := by decide +kernel
theorem dL_law_963 : decode cL_law 963 = .ok (.iconst 0, 1) := by decide +kernel
theorem dL_law_964 : decode cL_law 964 = .ok (.goto 11, 3) := by decide +kernel
theorem dL_law_967 : decode cL_law 967 = .ok (.iload 9, 2) := by decide +kernel
theorem dL_law_969 : decode cL_law 969 = .ok (.aload 6, 2) := by decide +kernel
theorem dL_law_971 : decode cL_law 971 = .ok (.iload 8, 2) := by decide +kernel
theorem dL_law_973 : decode cL_law 973 = .ok (.iaload, 1) := by decide +kernel
theorem dL_law_974 : decode cL_law 974 = .ok (.isub, 1) := by decide +kernel
theorem dL_law_975 : decode cL_law 975 = .ok (.if_icmp .eq 5, 3) := by decide +kernel
theorem dL_law_978 : decode cL_law 978 = .ok (.iconst 0, 1) := by decide +kernel
theorem dL_law_979 : decode cL_law 979 = .ok (.ireturn, 1) := by decide +kernel
theorem dL_law_980 : decode cL_law 980 = .ok (.iinc 8 1, 3) := by decide +kernel
theorem dL_law_983 : decode cL_law 983 = .ok (.goto (-121), 3) := by decide +kernel
theorem dL_law_986 : decode cL_law 986 = .ok (.aload_n 1, 1) := by decide +kernel
theorem dL_law_987 : decode cL_law 987 = .ok (.iconst 2, 1) := by decide +kernel
theorem dL_law_988 : decode cL_law 988 = .ok (.invokevirtual 68, 3) := by decide +kernel
theorem dL_law_991 : decode cL_law 991 = .ok (.ifCond .lt 16, 3) := by decide +kernel
theorem dL_law_994 : decode cL_law 994 = .ok (.aload_n 1, 1) := by decide +kernel
theorem dL_law_995 : decode cL_law 995 = .ok (.iconst 2, 1) := by decide +kernel
theorem dL_law_996 : decode cL_law 996 = .ok (.iconst 2, 1) := by decide +kernel
theorem dL_law_997 : decode cL_law 997 = .ok (.invokevirtual 49, 3) := by decide +kernel
theorem dL_law_1000 : decode cL_law 1000 = .ok (.ifCond .ne 7, 3) := by decide +kernel
theorem dL_law_1003 : decode cL_law 1003 = .ok (.iconst 1, 1) := by decide +kernel
theorem dL_law_1004 : decode cL_law 1004 = .ok (.goto 4, 3) := by decide +kernel
theorem dL_law_1007 : decode cL_law 1007 = .ok (.iconst 0, 1) := by decide +kernel
theorem dL_law_1008 : decode cL_law 1008 = .ok (.ireturn, 1) := by decide +kernel
abbrev vwCl : List vw_C := [(RX0, TX0, 12), (RX1, TX1, 17), (RX2, TX2, 7), (RX3, TX3, 15), (RX4, TX4, 17), (RX5, TX5, 3), (RX8, TX8, 6)]
end
section
theorem tw_2 : Cond.initialized RX8 ∈ wsL_law0 := List.mem_of_getElem? (i := 2) (by decide +kernel)
theorem tw_13 : Cond.initialized RX2 ∈ wsL_law0 := List.mem_of_getElem? (i := 13) (by decide +kernel)
theorem tw_16 : Cond.initialized RX4 ∈ wsL_law0 := List.mem_of_getElem? (i := 16) (by decide +kernel)
theorem tw_19 : Cond.initialized RX3 ∈ wsL_law0 := List.mem_of_getElem? (i := 19) (by decide +kernel)
theorem tw_22 : Cond.initialized RX1 ∈ wsL_law0 := List.mem_of_getElem? (i := 22) (by decide +kernel)
theorem tw_26 : Cond.initialized RX0 ∈ wsL_law0 := List.mem_of_getElem? (i := 26) (by decide +kernel)
theorem tw_27 : Cond.fieldLink RX8 28 "Tessera" "graph" "LTessera$Graph;" ∈ wsL_law0 := List.mem_of_getElem? (i := 27) (by decide +kernel)
theorem tw_28 : Cond.fieldLink RX8 32 "Tessera" "nursery" "LTessera$Nursery;" ∈ wsL_law0 := List.mem_of_getElem? (i := 28) (by decide +kernel)
theorem tw_29 : Cond.fieldLink RX8 36 "Tessera" "marking" "LTessera$Marking;" ∈ wsL_law0 := List.mem_of_getElem? (i := 29) (by decide +kernel)
theorem tw_30 : Cond.fieldLink RX8 40 "Tessera" "counting" "LTessera$Counting;" ∈ wsL_law0 := List.mem_of_getElem? (i := 30) (by decide +kernel)
theorem tw_31 : Cond.fieldLink RX8 44 "Tessera" "stores" "[LTessera$Store;" ∈ wsL_law0 := List.mem_of_getElem? (i := 31) (by decide +kernel)
theorem tw_32 : Cond.fieldLink RX8 48 "Tessera" "room" "I" ∈ wsL_law0 := List.mem_of_getElem? (i := 32) (by decide +kernel)
theorem tw_37 : Cond.fieldLink RX2 9 "Tessera$Graph" "fields" "[I" ∈ wsL_law0 := List.mem_of_getElem? (i := 37) (by decide +kernel)
theorem tw_38 : Cond.fieldLink RX2 15 "Tessera$Graph" "names" "[I" ∈ wsL_law0 := List.mem_of_getElem? (i := 38) (by decide +kernel)
theorem tw_39 : Cond.fieldLink RX2 18 "Tessera$Graph" "roots" "[I" ∈ wsL_law0 := List.mem_of_getElem? (i := 39) (by decide +kernel)
theorem tw_40 : Cond.fieldLink RX2 21 "Tessera$Graph" "distances" "[I" ∈ wsL_law0 := List.mem_of_getElem? (i := 40) (by decide +kernel)
theorem tw_43 : Cond.initialized RX5 ∈ wsL_law0 := List.mem_of_getElem? (i := 43) (by decide +kernel)
theorem tw_44 : Cond.fieldLink RX2 27 "Tessera$Graph" "reached" "LTessera$Row;" ∈ wsL_law0 := List.mem_of_getElem? (i := 44) (by decide +kernel)
theorem tw_45 : Cond.fieldLink RX2 31 "Tessera$Graph" "reachedOtherwise" "LTessera$Row;" ∈ wsL_law0 := List.mem_of_getElem? (i := 45) (by decide +kernel)
theorem tw_49 : Cond.fieldLink RX5 9 "Tessera$Row" "items" "[I" ∈ wsL_law0 := List.mem_of_getElem? (i := 49) (by decide +kernel)
theorem tw_50 : Cond.fieldLink RX5 15 "Tessera$Row" "inside" "[Z" ∈ wsL_law0 := List.mem_of_getElem? (i := 50) (by decide +kernel)
theorem tw_55 : Cond.fieldLink RX4 14 "Tessera$Nursery" "young" "LTessera$Row;" ∈ wsL_law0 := List.mem_of_getElem? (i := 55) (by decide +kernel)
theorem tw_56 : Cond.fieldLink RX4 20 "Tessera$Nursery" "old" "LTessera$Row;" ∈ wsL_law0 := List.mem_of_getElem? (i := 56) (by decide +kernel)
theorem tw_57 : Cond.fieldLink RX4 23 "Tessera$Nursery" "found" "LTessera$Row;" ∈ wsL_law0 := List.mem_of_getElem? (i := 57) (by decide +kernel)
theorem tw_58 : Cond.fieldLink RX4 26 "Tessera$Nursery" "grown" "[Z" ∈ wsL_law0 := List.mem_of_getElem? (i := 58) (by decide +kernel)
theorem tw_59 : Cond.fieldLink RX4 30 "Tessera$Nursery" "oldEnd" "I" ∈ wsL_law0 := List.mem_of_getElem? (i := 59) (by decide +kernel)
theorem tw_62 : Cond.initialized RX7 ∈ wsL_law0 := List.mem_of_getElem? (i := 62) (by decide +kernel)
theorem tw_65 : Cond.fieldLink RX7 9 "Tessera$Store" "had" "[Z" ∈ wsL_law0 := List.mem_of_getElem? (i := 65) (by decide +kernel)
theorem tw_66 : Cond.fieldLink RX7 15 "Tessera$Store" "places" "[I" ∈ wsL_law0 := List.mem_of_getElem? (i := 66) (by decide +kernel)
theorem tw_67 : Cond.fieldLink RX7 19 "Tessera$Store" "graph" "LTessera$Graph;" ∈ wsL_law0 := List.mem_of_getElem? (i := 67) (by decide +kernel)
theorem tw_68 : Cond.fieldLink RX7 23 "Tessera$Store" "room" "I" ∈ wsL_law0 := List.mem_of_getElem? (i := 68) (by decide +kernel)
theorem tw_72 : Cond.fieldLink RX3 9 "Tessera$Marking" "colours" "[I" ∈ wsL_law0 := List.mem_of_getElem? (i := 72) (by decide +kernel)
theorem tw_74 : Cond.fieldLink RX3 20 "Tessera$Marking" "greys" "LTessera$Row;" ∈ wsL_law0 := List.mem_of_getElem? (i := 74) (by decide +kernel)
theorem tw_75 : Cond.fieldLink RX3 24 "Tessera$Marking" "foreseen" "LTessera$Row;" ∈ wsL_law0 := List.mem_of_getElem? (i := 75) (by decide +kernel)
theorem tw_78 : Cond.initialized RX6 ∈ wsL_law0 := List.mem_of_getElem? (i := 78) (by decide +kernel)
theorem tw_80 : Cond.fieldLink RX6 9 "Tessera$Scattered" "taken" "[Z" ∈ wsL_law0 := List.mem_of_getElem? (i := 80) (by decide +kernel)
theorem tw_85 : Cond.fieldLink RX1 9 "Tessera$Counting" "counts" "[I" ∈ wsL_law0 := List.mem_of_getElem? (i := 85) (by decide +kernel)
theorem tw_86 : Cond.fieldLink RX1 15 "Tessera$Counting" "suspects" "[Z" ∈ wsL_law0 := List.mem_of_getElem? (i := 86) (by decide +kernel)
theorem tw_87 : Cond.fieldLink RX1 19 "Tessera$Counting" "namedInside" "[I" ∈ wsL_law0 := List.mem_of_getElem? (i := 87) (by decide +kernel)
theorem tw_89 : Cond.fieldLink RX1 27 "Tessera$Counting" "fallen" "LTessera$Row;" ∈ wsL_law0 := List.mem_of_getElem? (i := 89) (by decide +kernel)
theorem tw_90 : Cond.fieldLink RX1 31 "Tessera$Counting" "suspected" "LTessera$Row;" ∈ wsL_law0 := List.mem_of_getElem? (i := 90) (by decide +kernel)
theorem tw_91 : Cond.fieldLink RX1 34 "Tessera$Counting" "leftOut" "LTessera$Row;" ∈ wsL_law0 := List.mem_of_getElem? (i := 91) (by decide +kernel)
theorem tw_97 : Cond.fieldLink RX0 14 "Tessera$Copying" "copied" "LTessera$Row;" ∈ wsL_law0 := List.mem_of_getElem? (i := 97) (by decide +kernel)
theorem tw_114 : Cond.methodLink RX8 59 yX2_startAnew ∈ wsL_law0 := List.mem_of_getElem? (i := 114) (by decide +kernel)
theorem tw_115 : Cond.instanceMethod yX2_startAnew ∈ wsL_law0 := List.mem_of_getElem? (i := 115) (by decide +kernel)
theorem tw_116 : Cond.selects RX2 yX2_startAnew yX2_startAnew ∈ wsL_law0 := List.mem_of_getElem? (i := 116) (by decide +kernel)
theorem tw_117 : Cond.code yX2_startAnew cX2_startAnew 1 none ∈ wsL_law0 := List.mem_of_getElem? (i := 117) (by decide +kernel)
theorem tw_118 : Cond.fieldLink RX2 34 "Tessera$Graph" "count" "I" ∈ wsL_law0 := List.mem_of_getElem? (i := 118) (by decide +kernel)
theorem tw_119 : Cond.methodLink RX2 38 yJ7_fill_53178 ∈ wsL_law0 := List.mem_of_getElem? (i := 119) (by decide +kernel)
theorem tw_120 : Cond.static yJ7_fill_53178 ∈ wsL_law0 := List.mem_of_getElem? (i := 120) (by decide +kernel)
theorem tw_121 : Cond.initialized RJ7 ∈ wsL_law0 := List.mem_of_getElem? (i := 121) (by decide +kernel)
theorem tw_122 : Cond.code yJ7_fill_53178 cJ7_fill_53178 4 none ∈ wsL_law0 := List.mem_of_getElem? (i := 122) (by decide +kernel)
theorem tw_123 : Cond.methodLink RX2 44 yX5_empty ∈ wsL_law0 := List.mem_of_getElem? (i := 123) (by decide +kernel)
theorem tw_124 : Cond.instanceMethod yX5_empty ∈ wsL_law0 := List.mem_of_getElem? (i := 124) (by decide +kernel)
theorem tw_125 : Cond.selects RX5 yX5_empty yX5_empty ∈ wsL_law0 := List.mem_of_getElem? (i := 125) (by decide +kernel)
theorem tw_126 : Cond.code yX5_empty cX5_empty 2 none ∈ wsL_law0 := List.mem_of_getElem? (i := 126) (by decide +kernel)
theorem tw_127 : Cond.fieldLink RX5 19 "Tessera$Row" "size" "I" ∈ wsL_law0 := List.mem_of_getElem? (i := 127) (by decide +kernel)
theorem tw_128 : Cond.methodLink RX8 62 ⟨"Tessera$Store", "startAnew", "(I)V"⟩ ∈ wsL_law0 := List.mem_of_getElem? (i := 128) (by decide +kernel)
theorem tw_129 : Cond.sameMethod "Tessera$Store" "Tessera$Store" "startAnew" "(I)V" ∈ wsL_law0 := List.mem_of_getElem? (i := 129) (by decide +kernel)
theorem tw_130 : Cond.selects RX0 ⟨"Tessera$Store", "startAnew", "(I)V"⟩ yX7_startAnew ∈ wsL_law0 := List.mem_of_getElem? (i := 130) (by decide +kernel)
theorem tw_131 : Cond.instanceMethod yX7_startAnew ∈ wsL_law0 := List.mem_of_getElem? (i := 131) (by decide +kernel)
theorem tw_132 : Cond.code yX7_startAnew cX7_startAnew 2 none ∈ wsL_law0 := List.mem_of_getElem? (i := 132) (by decide +kernel)
theorem tw_133 : Cond.fieldLink RX7 27 "Tessera$Store" "work" "I" ∈ wsL_law0 := List.mem_of_getElem? (i := 133) (by decide +kernel)
theorem tw_134 : Cond.fieldLink RX7 30 "Tessera$Store" "longestPause" "I" ∈ wsL_law0 := List.mem_of_getElem? (i := 134) (by decide +kernel)
theorem tw_135 : Cond.fieldLink RX7 33 "Tessera$Store" "collectings" "I" ∈ wsL_law0 := List.mem_of_getElem? (i := 135) (by decide +kernel)
theorem tw_136 : Cond.fieldLink RX7 36 "Tessera$Store" "broken" "Z" ∈ wsL_law0 := List.mem_of_getElem? (i := 136) (by decide +kernel)
theorem tw_137 : Cond.fieldLink RX7 40 "Tessera$Store" "workAhead" "I" ∈ wsL_law0 := List.mem_of_getElem? (i := 137) (by decide +kernel)
theorem tw_138 : Cond.methodLink RX7 43 ⟨"Tessera$Store", "letAllGo", "()V"⟩ ∈ wsL_law0 := List.mem_of_getElem? (i := 138) (by decide +kernel)
theorem tw_139 : Cond.sameMethod "Tessera$Store" "Tessera$Store" "letAllGo" "()V" ∈ wsL_law0 := List.mem_of_getElem? (i := 139) (by decide +kernel)
theorem tw_140 : Cond.selects RX0 ⟨"Tessera$Store", "letAllGo", "()V"⟩ yX7_letAllGo ∈ wsL_law0 := List.mem_of_getElem? (i := 140) (by decide +kernel)
theorem tw_141 : Cond.instanceMethod yX7_letAllGo ∈ wsL_law0 := List.mem_of_getElem? (i := 141) (by decide +kernel)
theorem tw_142 : Cond.code yX7_letAllGo cX7_letAllGo 2 none ∈ wsL_law0 := List.mem_of_getElem? (i := 142) (by decide +kernel)
theorem tw_143 : Cond.selects RX1 ⟨"Tessera$Store", "letAllGo", "()V"⟩ yX7_letAllGo ∈ wsL_law0 := List.mem_of_getElem? (i := 143) (by decide +kernel)
theorem tw_144 : Cond.selects RX3 ⟨"Tessera$Store", "letAllGo", "()V"⟩ yX7_letAllGo ∈ wsL_law0 := List.mem_of_getElem? (i := 144) (by decide +kernel)
theorem tw_145 : Cond.selects RX4 ⟨"Tessera$Store", "letAllGo", "()V"⟩ yX7_letAllGo ∈ wsL_law0 := List.mem_of_getElem? (i := 145) (by decide +kernel)
theorem tw_146 : Cond.methodLink RX7 46 ⟨"Tessera$Store", "forgetThings", "()V"⟩ ∈ wsL_law0 := List.mem_of_getElem? (i := 146) (by decide +kernel)
theorem tw_147 : Cond.sameMethod "Tessera$Store" "Tessera$Store" "forgetThings" "()V" ∈ wsL_law0 := List.mem_of_getElem? (i := 147) (by decide +kernel)
theorem tw_148 : Cond.selects RX0 ⟨"Tessera$Store", "forgetThings", "()V"⟩ yX0_forgetThings ∈ wsL_law0 := List.mem_of_getElem? (i := 148) (by decide +kernel)
theorem tw_149 : Cond.instanceMethod yX0_forgetThings ∈ wsL_law0 := List.mem_of_getElem? (i := 149) (by decide +kernel)
theorem tw_150 : Cond.code yX0_forgetThings cX0_forgetThings 1 none ∈ wsL_law0 := List.mem_of_getElem? (i := 150) (by decide +kernel)
theorem tw_151 : Cond.fieldLink RX0 20 "Tessera$Copying" "usesSecond" "Z" ∈ wsL_law0 := List.mem_of_getElem? (i := 151) (by decide +kernel)
theorem tw_152 : Cond.fieldLink RX0 24 "Tessera$Copying" "used" "I" ∈ wsL_law0 := List.mem_of_getElem? (i := 152) (by decide +kernel)
theorem tw_153 : Cond.selects RX1 ⟨"Tessera$Store", "forgetThings", "()V"⟩ yX1_forgetThings ∈ wsL_law0 := List.mem_of_getElem? (i := 153) (by decide +kernel)
theorem tw_154 : Cond.instanceMethod yX1_forgetThings ∈ wsL_law0 := List.mem_of_getElem? (i := 154) (by decide +kernel)
theorem tw_155 : Cond.code yX1_forgetThings cX1_forgetThings 2 none ∈ wsL_law0 := List.mem_of_getElem? (i := 155) (by decide +kernel)
theorem tw_156 : Cond.selects RX3 ⟨"Tessera$Store", "forgetThings", "()V"⟩ yX3_forgetThings ∈ wsL_law0 := List.mem_of_getElem? (i := 156) (by decide +kernel)
theorem tw_157 : Cond.instanceMethod yX3_forgetThings ∈ wsL_law0 := List.mem_of_getElem? (i := 157) (by decide +kernel)
theorem tw_158 : Cond.code yX3_forgetThings cX3_forgetThings 1 none ∈ wsL_law0 := List.mem_of_getElem? (i := 158) (by decide +kernel)
theorem tw_159 : Cond.fieldLink RX3 27 "Tessera$Marking" "marks" "Z" ∈ wsL_law0 := List.mem_of_getElem? (i := 159) (by decide +kernel)
theorem tw_160 : Cond.fieldLink RX3 34 "Tessera$Marking" "firstGrey" "I" ∈ wsL_law0 := List.mem_of_getElem? (i := 160) (by decide +kernel)
theorem tw_161 : Cond.methodLink RX3 31 yX5_empty ∈ wsL_law0 := List.mem_of_getElem? (i := 161) (by decide +kernel)
theorem tw_162 : Cond.selects RX4 ⟨"Tessera$Store", "forgetThings", "()V"⟩ yX4_forgetThings ∈ wsL_law0 := List.mem_of_getElem? (i := 162) (by decide +kernel)
theorem tw_163 : Cond.instanceMethod yX4_forgetThings ∈ wsL_law0 := List.mem_of_getElem? (i := 163) (by decide +kernel)
theorem tw_164 : Cond.code yX4_forgetThings cX4_forgetThings 1 none ∈ wsL_law0 := List.mem_of_getElem? (i := 164) (by decide +kernel)
theorem tw_165 : Cond.fieldLink RX4 37 "Tessera$Nursery" "youngEnd" "I" ∈ wsL_law0 := List.mem_of_getElem? (i := 165) (by decide +kernel)
theorem tw_166 : Cond.fieldLink RX4 40 "Tessera$Nursery" "room" "I" ∈ wsL_law0 := List.mem_of_getElem? (i := 166) (by decide +kernel)
theorem tw_167 : Cond.sameField "Tessera$Nursery" "Tessera$Store" "room" "I" ∈ wsL_law0 := List.mem_of_getElem? (i := 167) (by decide +kernel)
theorem tw_168 : Cond.methodLink RX4 34 yX5_empty ∈ wsL_law0 := List.mem_of_getElem? (i := 168) (by decide +kernel)
theorem tw_169 : Cond.methodLink RX7 49 ⟨"Tessera$Store", "resetCounters", "()V"⟩ ∈ wsL_law0 := List.mem_of_getElem? (i := 169) (by decide +kernel)
theorem tw_170 : Cond.sameMethod "Tessera$Store" "Tessera$Store" "resetCounters" "()V" ∈ wsL_law0 := List.mem_of_getElem? (i := 170) (by decide +kernel)
theorem tw_171 : Cond.selects RX0 ⟨"Tessera$Store", "resetCounters", "()V"⟩ yX7_resetCounters ∈ wsL_law0 := List.mem_of_getElem? (i := 171) (by decide +kernel)
theorem tw_172 : Cond.instanceMethod yX7_resetCounters ∈ wsL_law0 := List.mem_of_getElem? (i := 172) (by decide +kernel)
theorem tw_173 : Cond.code yX7_resetCounters cX7_resetCounters 1 none ∈ wsL_law0 := List.mem_of_getElem? (i := 173) (by decide +kernel)
theorem tw_174 : Cond.instanceMethod ⟨"Tessera$Store", "resetCounters", "()V"⟩ ∈ wsL_law0 := List.mem_of_getElem? (i := 174) (by decide +kernel)
theorem tw_175 : Cond.selects RX1 ⟨"Tessera$Store", "resetCounters", "()V"⟩ yX1_resetCounters ∈ wsL_law0 := List.mem_of_getElem? (i := 175) (by decide +kernel)
theorem tw_176 : Cond.instanceMethod yX1_resetCounters ∈ wsL_law0 := List.mem_of_getElem? (i := 176) (by decide +kernel)
theorem tw_177 : Cond.code yX1_resetCounters cX1_resetCounters 1 none ∈ wsL_law0 := List.mem_of_getElem? (i := 177) (by decide +kernel)
theorem tw_178 : Cond.fieldLink RX1 37 "Tessera$Counting" "goneByRings" "I" ∈ wsL_law0 := List.mem_of_getElem? (i := 178) (by decide +kernel)
theorem tw_179 : Cond.selects RX3 ⟨"Tessera$Store", "resetCounters", "()V"⟩ yX7_resetCounters ∈ wsL_law0 := List.mem_of_getElem? (i := 179) (by decide +kernel)
theorem tw_180 : Cond.selects RX4 ⟨"Tessera$Store", "resetCounters", "()V"⟩ yX4_resetCounters ∈ wsL_law0 := List.mem_of_getElem? (i := 180) (by decide +kernel)
theorem tw_181 : Cond.instanceMethod yX4_resetCounters ∈ wsL_law0 := List.mem_of_getElem? (i := 181) (by decide +kernel)
theorem tw_182 : Cond.code yX4_resetCounters cX4_resetCounters 1 none ∈ wsL_law0 := List.mem_of_getElem? (i := 182) (by decide +kernel)
theorem tw_183 : Cond.fieldLink RX4 43 "Tessera$Nursery" "smallOnes" "I" ∈ wsL_law0 := List.mem_of_getElem? (i := 183) (by decide +kernel)
theorem tw_184 : Cond.fieldLink RX4 46 "Tessera$Nursery" "wordsGrownOld" "I" ∈ wsL_law0 := List.mem_of_getElem? (i := 184) (by decide +kernel)
theorem tw_185 : Cond.selects RX1 ⟨"Tessera$Store", "startAnew", "(I)V"⟩ yX7_startAnew ∈ wsL_law0 := List.mem_of_getElem? (i := 185) (by decide +kernel)
theorem tw_186 : Cond.selects RX3 ⟨"Tessera$Store", "startAnew", "(I)V"⟩ yX7_startAnew ∈ wsL_law0 := List.mem_of_getElem? (i := 186) (by decide +kernel)
theorem tw_187 : Cond.selects RX4 ⟨"Tessera$Store", "startAnew", "(I)V"⟩ yX7_startAnew ∈ wsL_law0 := List.mem_of_getElem? (i := 187) (by decide +kernel)
theorem tw_192 : Cond.fieldLink RX8 70 "Tessera$Graph" "count" "I" ∈ wsL_law0 := List.mem_of_getElem? (i := 192) (by decide +kernel)
theorem tw_199 : Cond.fieldLink RX8 85 "Tessera$Store" "broken" "Z" ∈ wsL_law0 := List.mem_of_getElem? (i := 199) (by decide +kernel)
theorem tw_200 : Cond.methodLink RX8 67 yX8_checkRoot ∈ wsL_law0 := List.mem_of_getElem? (i := 200) (by decide +kernel)
theorem tw_201 : Cond.static yX8_checkRoot ∈ wsL_law0 := List.mem_of_getElem? (i := 201) (by decide +kernel)
theorem tw_202 : Cond.code yX8_checkRoot cX8_checkRoot 1 none ∈ wsL_law0 := List.mem_of_getElem? (i := 202) (by decide +kernel)
theorem tw_205 : Cond.methodLink RX8 78 yX8_openPauses ∈ wsL_law0 := List.mem_of_getElem? (i := 205) (by decide +kernel)
theorem tw_206 : Cond.instanceMethod yX8_openPauses ∈ wsL_law0 := List.mem_of_getElem? (i := 206) (by decide +kernel)
theorem tw_207 : Cond.selects RX8 yX8_openPauses yX8_openPauses ∈ wsL_law0 := List.mem_of_getElem? (i := 207) (by decide +kernel)
theorem tw_208 : Cond.code yX8_openPauses cX8_openPauses 2 none ∈ wsL_law0 := List.mem_of_getElem? (i := 208) (by decide +kernel)
theorem tw_209 : Cond.methodLink RX8 148 ⟨"Tessera$Store", "openPause", "()V"⟩ ∈ wsL_law0 := List.mem_of_getElem? (i := 209) (by decide +kernel)
theorem tw_210 : Cond.sameMethod "Tessera$Store" "Tessera$Store" "openPause" "()V" ∈ wsL_law0 := List.mem_of_getElem? (i := 210) (by decide +kernel)
theorem tw_211 : Cond.selects RX0 ⟨"Tessera$Store", "openPause", "()V"⟩ yX7_openPause ∈ wsL_law0 := List.mem_of_getElem? (i := 211) (by decide +kernel)
theorem tw_212 : Cond.instanceMethod yX7_openPause ∈ wsL_law0 := List.mem_of_getElem? (i := 212) (by decide +kernel)
theorem tw_213 : Cond.code yX7_openPause cX7_openPause 1 none ∈ wsL_law0 := List.mem_of_getElem? (i := 213) (by decide +kernel)
theorem tw_214 : Cond.selects RX1 ⟨"Tessera$Store", "openPause", "()V"⟩ yX7_openPause ∈ wsL_law0 := List.mem_of_getElem? (i := 214) (by decide +kernel)
theorem tw_215 : Cond.selects RX3 ⟨"Tessera$Store", "openPause", "()V"⟩ yX7_openPause ∈ wsL_law0 := List.mem_of_getElem? (i := 215) (by decide +kernel)
theorem tw_216 : Cond.selects RX4 ⟨"Tessera$Store", "openPause", "()V"⟩ yX7_openPause ∈ wsL_law0 := List.mem_of_getElem? (i := 216) (by decide +kernel)
theorem tw_217 : Cond.methodLink RX8 81 yX2_addThing ∈ wsL_law0 := List.mem_of_getElem? (i := 217) (by decide +kernel)
theorem tw_218 : Cond.instanceMethod yX2_addThing ∈ wsL_law0 := List.mem_of_getElem? (i := 218) (by decide +kernel)
theorem tw_219 : Cond.selects RX2 yX2_addThing yX2_addThing ∈ wsL_law0 := List.mem_of_getElem? (i := 219) (by decide +kernel)
theorem tw_220 : Cond.code yX2_addThing cX2_addThing 4 (some .int) ∈ wsL_law0 := List.mem_of_getElem? (i := 220) (by decide +kernel)
theorem tw_221 : Cond.methodLink RX8 89 ⟨"Tessera$Store", "placeNew", "(I)V"⟩ ∈ wsL_law0 := List.mem_of_getElem? (i := 221) (by decide +kernel)
theorem tw_222 : Cond.sameMethod "Tessera$Store" "Tessera$Store" "placeNew" "(I)V" ∈ wsL_law0 := List.mem_of_getElem? (i := 222) (by decide +kernel)
theorem tw_223 : Cond.selects RX0 ⟨"Tessera$Store", "placeNew", "(I)V"⟩ yX0_placeNew ∈ wsL_law0 := List.mem_of_getElem? (i := 223) (by decide +kernel)
theorem tw_224 : Cond.instanceMethod yX0_placeNew ∈ wsL_law0 := List.mem_of_getElem? (i := 224) (by decide +kernel)
theorem tw_225 : Cond.code yX0_placeNew cX0_placeNew 3 none ∈ wsL_law0 := List.mem_of_getElem? (i := 225) (by decide +kernel)
theorem tw_226 : Cond.fieldLink RX0 28 "Tessera$Copying" "graph" "LTessera$Graph;" ∈ wsL_law0 := List.mem_of_getElem? (i := 226) (by decide +kernel)
theorem tw_227 : Cond.sameField "Tessera$Copying" "Tessera$Store" "graph" "LTessera$Graph;" ∈ wsL_law0 := List.mem_of_getElem? (i := 227) (by decide +kernel)
theorem tw_228 : Cond.methodLink RX0 32 yX2_wordsOf ∈ wsL_law0 := List.mem_of_getElem? (i := 228) (by decide +kernel)
theorem tw_229 : Cond.instanceMethod yX2_wordsOf ∈ wsL_law0 := List.mem_of_getElem? (i := 229) (by decide +kernel)
theorem tw_230 : Cond.selects RX2 yX2_wordsOf yX2_wordsOf ∈ wsL_law0 := List.mem_of_getElem? (i := 230) (by decide +kernel)
theorem tw_231 : Cond.code yX2_wordsOf cX2_wordsOf 2 (some .int) ∈ wsL_law0 := List.mem_of_getElem? (i := 231) (by decide +kernel)
theorem tw_232 : Cond.methodLink RX0 38 yX0_freeTogether ∈ wsL_law0 := List.mem_of_getElem? (i := 232) (by decide +kernel)
theorem tw_233 : Cond.instanceMethod yX0_freeTogether ∈ wsL_law0 := List.mem_of_getElem? (i := 233) (by decide +kernel)
theorem tw_234 : Cond.selects RX0 yX0_freeTogether yX0_freeTogether ∈ wsL_law0 := List.mem_of_getElem? (i := 234) (by decide +kernel)
theorem tw_235 : Cond.code yX0_freeTogether cX0_freeTogether 1 (some .int) ∈ wsL_law0 := List.mem_of_getElem? (i := 235) (by decide +kernel)
theorem tw_236 : Cond.fieldLink RX0 80 "Tessera$Copying" "room" "I" ∈ wsL_law0 := List.mem_of_getElem? (i := 236) (by decide +kernel)
theorem tw_237 : Cond.sameField "Tessera$Copying" "Tessera$Store" "room" "I" ∈ wsL_law0 := List.mem_of_getElem? (i := 237) (by decide +kernel)
theorem tw_238 : Cond.methodLink RX0 42 yX0_collectNow ∈ wsL_law0 := List.mem_of_getElem? (i := 238) (by decide +kernel)
theorem tw_239 : Cond.instanceMethod yX0_collectNow ∈ wsL_law0 := List.mem_of_getElem? (i := 239) (by decide +kernel)
theorem tw_240 : Cond.selects RX0 yX0_collectNow yX0_collectNow ∈ wsL_law0 := List.mem_of_getElem? (i := 240) (by decide +kernel)
theorem tw_241 : Cond.code yX0_collectNow cX0_collectNow 3 (some .int) ∈ wsL_law0 := List.mem_of_getElem? (i := 241) (by decide +kernel)
theorem tw_242 : Cond.fieldLink RX0 62 "Tessera$Row" "size" "I" ∈ wsL_law0 := List.mem_of_getElem? (i := 242) (by decide +kernel)
theorem tw_243 : Cond.fieldLink RX0 68 "Tessera$Copying" "work" "I" ∈ wsL_law0 := List.mem_of_getElem? (i := 243) (by decide +kernel)
theorem tw_244 : Cond.sameField "Tessera$Copying" "Tessera$Store" "work" "I" ∈ wsL_law0 := List.mem_of_getElem? (i := 244) (by decide +kernel)
theorem tw_245 : Cond.fieldLink RX0 71 "Tessera$Copying" "collectings" "I" ∈ wsL_law0 := List.mem_of_getElem? (i := 245) (by decide +kernel)
theorem tw_246 : Cond.sameField "Tessera$Copying" "Tessera$Store" "collectings" "I" ∈ wsL_law0 := List.mem_of_getElem? (i := 246) (by decide +kernel)
theorem tw_247 : Cond.methodLink RX0 52 ⟨"Tessera$Copying", "countHad", "()I"⟩ ∈ wsL_law0 := List.mem_of_getElem? (i := 247) (by decide +kernel)
theorem tw_248 : Cond.sameMethod "Tessera$Copying" "Tessera$Store" "countHad" "()I" ∈ wsL_law0 := List.mem_of_getElem? (i := 248) (by decide +kernel)
theorem tw_249 : Cond.selects RX0 ⟨"Tessera$Copying", "countHad", "()I"⟩ yX7_countHad ∈ wsL_law0 := List.mem_of_getElem? (i := 249) (by decide +kernel)
theorem tw_250 : Cond.instanceMethod yX7_countHad ∈ wsL_law0 := List.mem_of_getElem? (i := 250) (by decide +kernel)
theorem tw_251 : Cond.code yX7_countHad cX7_countHad 3 (some .int) ∈ wsL_law0 := List.mem_of_getElem? (i := 251) (by decide +kernel)
theorem tw_252 : Cond.fieldLink RX7 71 "Tessera$Graph" "count" "I" ∈ wsL_law0 := List.mem_of_getElem? (i := 252) (by decide +kernel)
theorem tw_253 : Cond.methodLink RX7 62 ⟨"Tessera$Store", "has", "(I)Z"⟩ ∈ wsL_law0 := List.mem_of_getElem? (i := 253) (by decide +kernel)
theorem tw_254 : Cond.sameMethod "Tessera$Store" "Tessera$Store" "has" "(I)Z" ∈ wsL_law0 := List.mem_of_getElem? (i := 254) (by decide +kernel)
theorem tw_255 : Cond.selects RX0 ⟨"Tessera$Store", "has", "(I)Z"⟩ yX7_has ∈ wsL_law0 := List.mem_of_getElem? (i := 255) (by decide +kernel)
theorem tw_256 : Cond.instanceMethod yX7_has ∈ wsL_law0 := List.mem_of_getElem? (i := 256) (by decide +kernel)
theorem tw_257 : Cond.code yX7_has cX7_has 2 (some .boolean) ∈ wsL_law0 := List.mem_of_getElem? (i := 257) (by decide +kernel)
theorem tw_258 : Cond.selects RX1 ⟨"Tessera$Store", "has", "(I)Z"⟩ yX7_has ∈ wsL_law0 := List.mem_of_getElem? (i := 258) (by decide +kernel)
theorem tw_259 : Cond.selects RX3 ⟨"Tessera$Store", "has", "(I)Z"⟩ yX7_has ∈ wsL_law0 := List.mem_of_getElem? (i := 259) (by decide +kernel)
theorem tw_260 : Cond.selects RX4 ⟨"Tessera$Store", "has", "(I)Z"⟩ yX7_has ∈ wsL_law0 := List.mem_of_getElem? (i := 260) (by decide +kernel)
theorem tw_261 : Cond.methodLink RX0 55 yX2_trace ∈ wsL_law0 := List.mem_of_getElem? (i := 261) (by decide +kernel)
theorem tw_262 : Cond.instanceMethod yX2_trace ∈ wsL_law0 := List.mem_of_getElem? (i := 262) (by decide +kernel)
theorem tw_263 : Cond.selects RX2 yX2_trace yX2_trace ∈ wsL_law0 := List.mem_of_getElem? (i := 263) (by decide +kernel)
theorem tw_264 : Cond.code yX2_trace cX2_trace 4 none ∈ wsL_law0 := List.mem_of_getElem? (i := 264) (by decide +kernel)
theorem tw_265 : Cond.fieldLink RX2 62 "Tessera$Row" "size" "I" ∈ wsL_law0 := List.mem_of_getElem? (i := 265) (by decide +kernel)
theorem tw_266 : Cond.methodLink RX2 58 yX5_add ∈ wsL_law0 := List.mem_of_getElem? (i := 266) (by decide +kernel)
theorem tw_267 : Cond.instanceMethod yX5_add ∈ wsL_law0 := List.mem_of_getElem? (i := 267) (by decide +kernel)
theorem tw_268 : Cond.selects RX5 yX5_add yX5_add ∈ wsL_law0 := List.mem_of_getElem? (i := 268) (by decide +kernel)
theorem tw_269 : Cond.code yX5_add cX5_add 2 none ∈ wsL_law0 := List.mem_of_getElem? (i := 269) (by decide +kernel)
theorem tw_270 : Cond.methodLink RX2 65 yX5_get ∈ wsL_law0 := List.mem_of_getElem? (i := 270) (by decide +kernel)
theorem tw_271 : Cond.instanceMethod yX5_get ∈ wsL_law0 := List.mem_of_getElem? (i := 271) (by decide +kernel)
theorem tw_272 : Cond.selects RX5 yX5_get yX5_get ∈ wsL_law0 := List.mem_of_getElem? (i := 272) (by decide +kernel)
theorem tw_273 : Cond.code yX5_get cX5_get 2 (some .int) ∈ wsL_law0 := List.mem_of_getElem? (i := 273) (by decide +kernel)
theorem tw_274 : Cond.methodLink RX2 69 yX2_addNamedBy ∈ wsL_law0 := List.mem_of_getElem? (i := 274) (by decide +kernel)
theorem tw_275 : Cond.instanceMethod yX2_addNamedBy ∈ wsL_law0 := List.mem_of_getElem? (i := 275) (by decide +kernel)
theorem tw_276 : Cond.selects RX2 yX2_addNamedBy yX2_addNamedBy ∈ wsL_law0 := List.mem_of_getElem? (i := 276) (by decide +kernel)
theorem tw_277 : Cond.code yX2_addNamedBy cX2_addNamedBy 4 none ∈ wsL_law0 := List.mem_of_getElem? (i := 277) (by decide +kernel)
theorem tw_278 : Cond.methodLink RX2 73 yX2_fieldsOf ∈ wsL_law0 := List.mem_of_getElem? (i := 278) (by decide +kernel)
theorem tw_279 : Cond.instanceMethod yX2_fieldsOf ∈ wsL_law0 := List.mem_of_getElem? (i := 279) (by decide +kernel)
theorem tw_280 : Cond.selects RX2 yX2_fieldsOf yX2_fieldsOf ∈ wsL_law0 := List.mem_of_getElem? (i := 280) (by decide +kernel)
theorem tw_281 : Cond.code yX2_fieldsOf cX2_fieldsOf 2 (some .int) ∈ wsL_law0 := List.mem_of_getElem? (i := 281) (by decide +kernel)
theorem tw_282 : Cond.methodLink RX2 76 yX2_nameOf ∈ wsL_law0 := List.mem_of_getElem? (i := 282) (by decide +kernel)
theorem tw_283 : Cond.instanceMethod yX2_nameOf ∈ wsL_law0 := List.mem_of_getElem? (i := 283) (by decide +kernel)
theorem tw_284 : Cond.selects RX2 yX2_nameOf yX2_nameOf ∈ wsL_law0 := List.mem_of_getElem? (i := 284) (by decide +kernel)
theorem tw_285 : Cond.code yX2_nameOf cX2_nameOf 3 (some .int) ∈ wsL_law0 := List.mem_of_getElem? (i := 285) (by decide +kernel)
theorem tw_286 : Cond.methodLink RX0 59 ⟨"Tessera$Copying", "letAllGo", "()V"⟩ ∈ wsL_law0 := List.mem_of_getElem? (i := 286) (by decide +kernel)
theorem tw_287 : Cond.sameMethod "Tessera$Copying" "Tessera$Store" "letAllGo" "()V" ∈ wsL_law0 := List.mem_of_getElem? (i := 287) (by decide +kernel)
theorem tw_288 : Cond.selects RX0 ⟨"Tessera$Copying", "letAllGo", "()V"⟩ yX7_letAllGo ∈ wsL_law0 := List.mem_of_getElem? (i := 288) (by decide +kernel)
theorem tw_289 : Cond.methodLink RX0 65 yX5_get ∈ wsL_law0 := List.mem_of_getElem? (i := 289) (by decide +kernel)
theorem tw_290 : Cond.methodLink RX0 48 yX0_putBehind ∈ wsL_law0 := List.mem_of_getElem? (i := 290) (by decide +kernel)
theorem tw_291 : Cond.instanceMethod yX0_putBehind ∈ wsL_law0 := List.mem_of_getElem? (i := 291) (by decide +kernel)
theorem tw_292 : Cond.selects RX0 yX0_putBehind yX0_putBehind ∈ wsL_law0 := List.mem_of_getElem? (i := 292) (by decide +kernel)
theorem tw_293 : Cond.code yX0_putBehind cX0_putBehind 2 none ∈ wsL_law0 := List.mem_of_getElem? (i := 293) (by decide +kernel)
theorem tw_294 : Cond.methodLink RX0 83 ⟨"Tessera$Copying", "put", "(II)V"⟩ ∈ wsL_law0 := List.mem_of_getElem? (i := 294) (by decide +kernel)
theorem tw_295 : Cond.sameMethod "Tessera$Copying" "Tessera$Store" "put" "(II)V" ∈ wsL_law0 := List.mem_of_getElem? (i := 295) (by decide +kernel)
theorem tw_296 : Cond.selects RX0 ⟨"Tessera$Copying", "put", "(II)V"⟩ yX7_put ∈ wsL_law0 := List.mem_of_getElem? (i := 296) (by decide +kernel)
theorem tw_297 : Cond.instanceMethod yX7_put ∈ wsL_law0 := List.mem_of_getElem? (i := 297) (by decide +kernel)
theorem tw_298 : Cond.code yX7_put cX7_put 3 none ∈ wsL_law0 := List.mem_of_getElem? (i := 298) (by decide +kernel)
theorem tw_299 : Cond.methodLink RX7 66 yX2_isThing ∈ wsL_law0 := List.mem_of_getElem? (i := 299) (by decide +kernel)
theorem tw_300 : Cond.instanceMethod yX2_isThing ∈ wsL_law0 := List.mem_of_getElem? (i := 300) (by decide +kernel)
theorem tw_301 : Cond.selects RX2 yX2_isThing yX2_isThing ∈ wsL_law0 := List.mem_of_getElem? (i := 301) (by decide +kernel)
theorem tw_302 : Cond.code yX2_isThing cX2_isThing 2 (some .boolean) ∈ wsL_law0 := List.mem_of_getElem? (i := 302) (by decide +kernel)
theorem tw_303 : Cond.methodLink RX0 45 ⟨"Tessera$Copying", "breakDown", "()V"⟩ ∈ wsL_law0 := List.mem_of_getElem? (i := 303) (by decide +kernel)
theorem tw_304 : Cond.sameMethod "Tessera$Copying" "Tessera$Store" "breakDown" "()V" ∈ wsL_law0 := List.mem_of_getElem? (i := 304) (by decide +kernel)
theorem tw_305 : Cond.selects RX0 ⟨"Tessera$Copying", "breakDown", "()V"⟩ yX7_breakDown ∈ wsL_law0 := List.mem_of_getElem? (i := 305) (by decide +kernel)
theorem tw_306 : Cond.instanceMethod yX7_breakDown ∈ wsL_law0 := List.mem_of_getElem? (i := 306) (by decide +kernel)
theorem tw_307 : Cond.code yX7_breakDown cX7_breakDown 1 none ∈ wsL_law0 := List.mem_of_getElem? (i := 307) (by decide +kernel)
theorem tw_308 : Cond.selects RX1 ⟨"Tessera$Store", "placeNew", "(I)V"⟩ yX1_placeNew ∈ wsL_law0 := List.mem_of_getElem? (i := 308) (by decide +kernel)
theorem tw_309 : Cond.instanceMethod yX1_placeNew ∈ wsL_law0 := List.mem_of_getElem? (i := 309) (by decide +kernel)
theorem tw_310 : Cond.code yX1_placeNew cX1_placeNew 3 none ∈ wsL_law0 := List.mem_of_getElem? (i := 310) (by decide +kernel)
theorem tw_311 : Cond.fieldLink RX1 56 "Tessera$Counting" "graph" "LTessera$Graph;" ∈ wsL_law0 := List.mem_of_getElem? (i := 311) (by decide +kernel)
theorem tw_312 : Cond.sameField "Tessera$Counting" "Tessera$Store" "graph" "LTessera$Graph;" ∈ wsL_law0 := List.mem_of_getElem? (i := 312) (by decide +kernel)
theorem tw_313 : Cond.methodLink RX1 41 ⟨"Tessera$Counting", "firstPlaceFor", "(I)I"⟩ ∈ wsL_law0 := List.mem_of_getElem? (i := 313) (by decide +kernel)
theorem tw_314 : Cond.sameMethod "Tessera$Counting" "Tessera$Scattered" "firstPlaceFor" "(I)I" ∈ wsL_law0 := List.mem_of_getElem? (i := 314) (by decide +kernel)
theorem tw_315 : Cond.selects RX1 ⟨"Tessera$Counting", "firstPlaceFor", "(I)I"⟩ yX6_firstPlaceFor ∈ wsL_law0 := List.mem_of_getElem? (i := 315) (by decide +kernel)
theorem tw_316 : Cond.instanceMethod yX6_firstPlaceFor ∈ wsL_law0 := List.mem_of_getElem? (i := 316) (by decide +kernel)
theorem tw_317 : Cond.code yX6_firstPlaceFor cX6_firstPlaceFor 5 (some .int) ∈ wsL_law0 := List.mem_of_getElem? (i := 317) (by decide +kernel)
theorem tw_318 : Cond.fieldLink RX6 15 "Tessera$Scattered" "graph" "LTessera$Graph;" ∈ wsL_law0 := List.mem_of_getElem? (i := 318) (by decide +kernel)
theorem tw_319 : Cond.sameField "Tessera$Scattered" "Tessera$Store" "graph" "LTessera$Graph;" ∈ wsL_law0 := List.mem_of_getElem? (i := 319) (by decide +kernel)
theorem tw_320 : Cond.fieldLink RX6 29 "Tessera$Scattered" "room" "I" ∈ wsL_law0 := List.mem_of_getElem? (i := 320) (by decide +kernel)
theorem tw_321 : Cond.sameField "Tessera$Scattered" "Tessera$Store" "room" "I" ∈ wsL_law0 := List.mem_of_getElem? (i := 321) (by decide +kernel)
theorem tw_322 : Cond.methodLink RX6 19 yX2_wordsOf ∈ wsL_law0 := List.mem_of_getElem? (i := 322) (by decide +kernel)
theorem tw_323 : Cond.methodLink RX6 25 ⟨"Tessera$Scattered", "markTaken", "()V"⟩ ∈ wsL_law0 := List.mem_of_getElem? (i := 323) (by decide +kernel)
theorem tw_324 : Cond.sameMethod "Tessera$Scattered" "Tessera$Scattered" "markTaken" "()V" ∈ wsL_law0 := List.mem_of_getElem? (i := 324) (by decide +kernel)
theorem tw_325 : Cond.selects RX1 ⟨"Tessera$Scattered", "markTaken", "()V"⟩ yX6_markTaken ∈ wsL_law0 := List.mem_of_getElem? (i := 325) (by decide +kernel)
theorem tw_326 : Cond.instanceMethod yX6_markTaken ∈ wsL_law0 := List.mem_of_getElem? (i := 326) (by decide +kernel)
theorem tw_327 : Cond.code yX6_markTaken cX6_markTaken 2 none ∈ wsL_law0 := List.mem_of_getElem? (i := 327) (by decide +kernel)
theorem tw_328 : Cond.fieldLink RX6 39 "Tessera$Graph" "count" "I" ∈ wsL_law0 := List.mem_of_getElem? (i := 328) (by decide +kernel)
theorem tw_329 : Cond.methodLink RX6 42 ⟨"Tessera$Scattered", "has", "(I)Z"⟩ ∈ wsL_law0 := List.mem_of_getElem? (i := 329) (by decide +kernel)
theorem tw_330 : Cond.sameMethod "Tessera$Scattered" "Tessera$Store" "has" "(I)Z" ∈ wsL_law0 := List.mem_of_getElem? (i := 330) (by decide +kernel)
theorem tw_331 : Cond.selects RX1 ⟨"Tessera$Scattered", "has", "(I)Z"⟩ yX7_has ∈ wsL_law0 := List.mem_of_getElem? (i := 331) (by decide +kernel)
theorem tw_332 : Cond.selects RX3 ⟨"Tessera$Scattered", "has", "(I)Z"⟩ yX7_has ∈ wsL_law0 := List.mem_of_getElem? (i := 332) (by decide +kernel)
theorem tw_333 : Cond.methodLink RX6 46 ⟨"Tessera$Scattered", "markTakenBy", "(I)V"⟩ ∈ wsL_law0 := List.mem_of_getElem? (i := 333) (by decide +kernel)
theorem tw_334 : Cond.sameMethod "Tessera$Scattered" "Tessera$Scattered" "markTakenBy" "(I)V" ∈ wsL_law0 := List.mem_of_getElem? (i := 334) (by decide +kernel)
theorem tw_335 : Cond.selects RX1 ⟨"Tessera$Scattered", "markTakenBy", "(I)V"⟩ yX6_markTakenBy ∈ wsL_law0 := List.mem_of_getElem? (i := 335) (by decide +kernel)
theorem tw_336 : Cond.instanceMethod yX6_markTakenBy ∈ wsL_law0 := List.mem_of_getElem? (i := 336) (by decide +kernel)
theorem tw_337 : Cond.code yX6_markTakenBy cX6_markTakenBy 5 none ∈ wsL_law0 := List.mem_of_getElem? (i := 337) (by decide +kernel)
theorem tw_338 : Cond.methodLink RX6 50 ⟨"Tessera$Scattered", "placeOf", "(I)I"⟩ ∈ wsL_law0 := List.mem_of_getElem? (i := 338) (by decide +kernel)
theorem tw_339 : Cond.sameMethod "Tessera$Scattered" "Tessera$Store" "placeOf" "(I)I" ∈ wsL_law0 := List.mem_of_getElem? (i := 339) (by decide +kernel)
theorem tw_340 : Cond.selects RX1 ⟨"Tessera$Scattered", "placeOf", "(I)I"⟩ yX7_placeOf ∈ wsL_law0 := List.mem_of_getElem? (i := 340) (by decide +kernel)
theorem tw_341 : Cond.instanceMethod yX7_placeOf ∈ wsL_law0 := List.mem_of_getElem? (i := 341) (by decide +kernel)
theorem tw_342 : Cond.code yX7_placeOf cX7_placeOf 2 (some .int) ∈ wsL_law0 := List.mem_of_getElem? (i := 342) (by decide +kernel)
theorem tw_343 : Cond.selects RX3 ⟨"Tessera$Scattered", "placeOf", "(I)I"⟩ yX7_placeOf ∈ wsL_law0 := List.mem_of_getElem? (i := 343) (by decide +kernel)
theorem tw_344 : Cond.selects RX3 ⟨"Tessera$Scattered", "markTakenBy", "(I)V"⟩ yX6_markTakenBy ∈ wsL_law0 := List.mem_of_getElem? (i := 344) (by decide +kernel)
theorem tw_345 : Cond.selects RX3 ⟨"Tessera$Scattered", "markTaken", "()V"⟩ yX6_markTaken ∈ wsL_law0 := List.mem_of_getElem? (i := 345) (by decide +kernel)
theorem tw_346 : Cond.methodLink RX1 45 yX1_collectNow ∈ wsL_law0 := List.mem_of_getElem? (i := 346) (by decide +kernel)
theorem tw_347 : Cond.instanceMethod yX1_collectNow ∈ wsL_law0 := List.mem_of_getElem? (i := 347) (by decide +kernel)
theorem tw_348 : Cond.selects RX1 yX1_collectNow yX1_collectNow ∈ wsL_law0 := List.mem_of_getElem? (i := 348) (by decide +kernel)
theorem tw_349 : Cond.code yX1_collectNow cX1_collectNow 3 (some .int) ∈ wsL_law0 := List.mem_of_getElem? (i := 349) (by decide +kernel)
theorem tw_350 : Cond.fieldLink RX1 69 "Tessera$Counting" "work" "I" ∈ wsL_law0 := List.mem_of_getElem? (i := 350) (by decide +kernel)
theorem tw_351 : Cond.sameField "Tessera$Counting" "Tessera$Store" "work" "I" ∈ wsL_law0 := List.mem_of_getElem? (i := 351) (by decide +kernel)
theorem tw_352 : Cond.fieldLink RX1 72 "Tessera$Row" "size" "I" ∈ wsL_law0 := List.mem_of_getElem? (i := 352) (by decide +kernel)
theorem tw_353 : Cond.fieldLink RX1 85 "Tessera$Counting" "collectings" "I" ∈ wsL_law0 := List.mem_of_getElem? (i := 353) (by decide +kernel)
theorem tw_354 : Cond.sameField "Tessera$Counting" "Tessera$Store" "collectings" "I" ∈ wsL_law0 := List.mem_of_getElem? (i := 354) (by decide +kernel)
theorem tw_355 : Cond.methodLink RX1 66 yX1_findRings ∈ wsL_law0 := List.mem_of_getElem? (i := 355) (by decide +kernel)
theorem tw_356 : Cond.instanceMethod yX1_findRings ∈ wsL_law0 := List.mem_of_getElem? (i := 356) (by decide +kernel)
theorem tw_357 : Cond.selects RX1 yX1_findRings yX1_findRings ∈ wsL_law0 := List.mem_of_getElem? (i := 357) (by decide +kernel)
theorem tw_358 : Cond.code yX1_findRings cX1_findRings 2 none ∈ wsL_law0 := List.mem_of_getElem? (i := 358) (by decide +kernel)
theorem tw_359 : Cond.fieldLink RX1 113 "Tessera$Graph" "count" "I" ∈ wsL_law0 := List.mem_of_getElem? (i := 359) (by decide +kernel)
theorem tw_360 : Cond.methodLink RX1 94 yX5_empty ∈ wsL_law0 := List.mem_of_getElem? (i := 360) (by decide +kernel)
theorem tw_361 : Cond.methodLink RX1 116 yX1_isSuspect ∈ wsL_law0 := List.mem_of_getElem? (i := 361) (by decide +kernel)
theorem tw_362 : Cond.instanceMethod yX1_isSuspect ∈ wsL_law0 := List.mem_of_getElem? (i := 362) (by decide +kernel)
theorem tw_363 : Cond.selects RX1 yX1_isSuspect yX1_isSuspect ∈ wsL_law0 := List.mem_of_getElem? (i := 363) (by decide +kernel)
theorem tw_364 : Cond.code yX1_isSuspect cX1_isSuspect 2 (some .boolean) ∈ wsL_law0 := List.mem_of_getElem? (i := 364) (by decide +kernel)
theorem tw_365 : Cond.methodLink RX1 88 ⟨"Tessera$Counting", "has", "(I)Z"⟩ ∈ wsL_law0 := List.mem_of_getElem? (i := 365) (by decide +kernel)
theorem tw_366 : Cond.sameMethod "Tessera$Counting" "Tessera$Store" "has" "(I)Z" ∈ wsL_law0 := List.mem_of_getElem? (i := 366) (by decide +kernel)
theorem tw_367 : Cond.selects RX1 ⟨"Tessera$Counting", "has", "(I)Z"⟩ yX7_has ∈ wsL_law0 := List.mem_of_getElem? (i := 367) (by decide +kernel)
theorem tw_368 : Cond.methodLink RX1 110 yX5_add ∈ wsL_law0 := List.mem_of_getElem? (i := 368) (by decide +kernel)
theorem tw_369 : Cond.methodLink RX1 75 yX5_get ∈ wsL_law0 := List.mem_of_getElem? (i := 369) (by decide +kernel)
theorem tw_370 : Cond.methodLink RX1 119 yX2_addNamedBy ∈ wsL_law0 := List.mem_of_getElem? (i := 370) (by decide +kernel)
theorem tw_371 : Cond.methodLink RX1 123 yX1_countNamedInside ∈ wsL_law0 := List.mem_of_getElem? (i := 371) (by decide +kernel)
theorem tw_372 : Cond.instanceMethod yX1_countNamedInside ∈ wsL_law0 := List.mem_of_getElem? (i := 372) (by decide +kernel)
theorem tw_373 : Cond.selects RX1 yX1_countNamedInside yX1_countNamedInside ∈ wsL_law0 := List.mem_of_getElem? (i := 373) (by decide +kernel)
theorem tw_374 : Cond.code yX1_countNamedInside cX1_countNamedInside 5 none ∈ wsL_law0 := List.mem_of_getElem? (i := 374) (by decide +kernel)
theorem tw_375 : Cond.methodLink RX1 129 yJ7_fill_53178 ∈ wsL_law0 := List.mem_of_getElem? (i := 375) (by decide +kernel)
theorem tw_376 : Cond.methodLink RX1 100 yX2_fieldsOf ∈ wsL_law0 := List.mem_of_getElem? (i := 376) (by decide +kernel)
theorem tw_377 : Cond.methodLink RX1 103 yX2_nameOf ∈ wsL_law0 := List.mem_of_getElem? (i := 377) (by decide +kernel)
theorem tw_378 : Cond.methodLink RX1 60 yX2_isThing ∈ wsL_law0 := List.mem_of_getElem? (i := 378) (by decide +kernel)
theorem tw_379 : Cond.methodLink RX1 126 yX1_findLeftOut ∈ wsL_law0 := List.mem_of_getElem? (i := 379) (by decide +kernel)
theorem tw_380 : Cond.instanceMethod yX1_findLeftOut ∈ wsL_law0 := List.mem_of_getElem? (i := 380) (by decide +kernel)
theorem tw_381 : Cond.selects RX1 yX1_findLeftOut yX1_findLeftOut ∈ wsL_law0 := List.mem_of_getElem? (i := 381) (by decide +kernel)
theorem tw_382 : Cond.code yX1_findLeftOut cX1_findLeftOut 3 none ∈ wsL_law0 := List.mem_of_getElem? (i := 382) (by decide +kernel)
theorem tw_383 : Cond.methodLink RX1 78 yX5_holds ∈ wsL_law0 := List.mem_of_getElem? (i := 383) (by decide +kernel)
theorem tw_384 : Cond.instanceMethod yX5_holds ∈ wsL_law0 := List.mem_of_getElem? (i := 384) (by decide +kernel)
theorem tw_385 : Cond.selects RX5 yX5_holds yX5_holds ∈ wsL_law0 := List.mem_of_getElem? (i := 385) (by decide +kernel)
theorem tw_386 : Cond.code yX5_holds cX5_holds 2 (some .boolean) ∈ wsL_law0 := List.mem_of_getElem? (i := 386) (by decide +kernel)
theorem tw_387 : Cond.methodLink RX1 81 yX1_letRingGo ∈ wsL_law0 := List.mem_of_getElem? (i := 387) (by decide +kernel)
theorem tw_388 : Cond.instanceMethod yX1_letRingGo ∈ wsL_law0 := List.mem_of_getElem? (i := 388) (by decide +kernel)
theorem tw_389 : Cond.selects RX1 yX1_letRingGo yX1_letRingGo ∈ wsL_law0 := List.mem_of_getElem? (i := 389) (by decide +kernel)
theorem tw_390 : Cond.code yX1_letRingGo cX1_letRingGo 4 none ∈ wsL_law0 := List.mem_of_getElem? (i := 390) (by decide +kernel)
theorem tw_391 : Cond.methodLink RX1 107 ⟨"Tessera$Counting", "letGo", "(I)V"⟩ ∈ wsL_law0 := List.mem_of_getElem? (i := 391) (by decide +kernel)
theorem tw_392 : Cond.sameMethod "Tessera$Counting" "Tessera$Store" "letGo" "(I)V" ∈ wsL_law0 := List.mem_of_getElem? (i := 392) (by decide +kernel)
theorem tw_393 : Cond.selects RX1 ⟨"Tessera$Counting", "letGo", "(I)V"⟩ yX7_letGo ∈ wsL_law0 := List.mem_of_getElem? (i := 393) (by decide +kernel)
theorem tw_394 : Cond.instanceMethod yX7_letGo ∈ wsL_law0 := List.mem_of_getElem? (i := 394) (by decide +kernel)
theorem tw_395 : Cond.code yX7_letGo cX7_letGo 2 none ∈ wsL_law0 := List.mem_of_getElem? (i := 395) (by decide +kernel)
theorem tw_396 : Cond.methodLink RX1 49 ⟨"Tessera$Counting", "breakDown", "()V"⟩ ∈ wsL_law0 := List.mem_of_getElem? (i := 396) (by decide +kernel)
theorem tw_397 : Cond.sameMethod "Tessera$Counting" "Tessera$Store" "breakDown" "()V" ∈ wsL_law0 := List.mem_of_getElem? (i := 397) (by decide +kernel)
theorem tw_398 : Cond.selects RX1 ⟨"Tessera$Counting", "breakDown", "()V"⟩ yX7_breakDown ∈ wsL_law0 := List.mem_of_getElem? (i := 398) (by decide +kernel)
theorem tw_399 : Cond.methodLink RX1 52 ⟨"Tessera$Counting", "put", "(II)V"⟩ ∈ wsL_law0 := List.mem_of_getElem? (i := 399) (by decide +kernel)
theorem tw_400 : Cond.sameMethod "Tessera$Counting" "Tessera$Store" "put" "(II)V" ∈ wsL_law0 := List.mem_of_getElem? (i := 400) (by decide +kernel)
theorem tw_401 : Cond.selects RX1 ⟨"Tessera$Counting", "put", "(II)V"⟩ yX7_put ∈ wsL_law0 := List.mem_of_getElem? (i := 401) (by decide +kernel)
theorem tw_402 : Cond.selects RX3 ⟨"Tessera$Store", "placeNew", "(I)V"⟩ yX3_placeNew ∈ wsL_law0 := List.mem_of_getElem? (i := 402) (by decide +kernel)
theorem tw_403 : Cond.instanceMethod yX3_placeNew ∈ wsL_law0 := List.mem_of_getElem? (i := 403) (by decide +kernel)
theorem tw_404 : Cond.code yX3_placeNew cX3_placeNew 3 none ∈ wsL_law0 := List.mem_of_getElem? (i := 404) (by decide +kernel)
theorem tw_405 : Cond.methodLink RX3 38 yX3_workAheadOfPlacing ∈ wsL_law0 := List.mem_of_getElem? (i := 405) (by decide +kernel)
theorem tw_406 : Cond.instanceMethod yX3_workAheadOfPlacing ∈ wsL_law0 := List.mem_of_getElem? (i := 406) (by decide +kernel)
theorem tw_407 : Cond.selects RX3 yX3_workAheadOfPlacing yX3_workAheadOfPlacing ∈ wsL_law0 := List.mem_of_getElem? (i := 407) (by decide +kernel)
theorem tw_408 : Cond.code yX3_workAheadOfPlacing cX3_workAheadOfPlacing 2 none ∈ wsL_law0 := List.mem_of_getElem? (i := 408) (by decide +kernel)
theorem tw_409 : Cond.fieldLink RX3 109 "Tessera$Marking" "room" "I" ∈ wsL_law0 := List.mem_of_getElem? (i := 409) (by decide +kernel)
theorem tw_410 : Cond.sameField "Tessera$Marking" "Tessera$Store" "room" "I" ∈ wsL_law0 := List.mem_of_getElem? (i := 410) (by decide +kernel)
theorem tw_411 : Cond.methodLink RX3 112 ⟨"Tessera$Marking", "wordsHad", "()I"⟩ ∈ wsL_law0 := List.mem_of_getElem? (i := 411) (by decide +kernel)
theorem tw_412 : Cond.sameMethod "Tessera$Marking" "Tessera$Store" "wordsHad" "()I" ∈ wsL_law0 := List.mem_of_getElem? (i := 412) (by decide +kernel)
theorem tw_413 : Cond.selects RX3 ⟨"Tessera$Marking", "wordsHad", "()I"⟩ yX7_wordsHad ∈ wsL_law0 := List.mem_of_getElem? (i := 413) (by decide +kernel)
theorem tw_414 : Cond.instanceMethod yX7_wordsHad ∈ wsL_law0 := List.mem_of_getElem? (i := 414) (by decide +kernel)
theorem tw_415 : Cond.code yX7_wordsHad cX7_wordsHad 3 (some .int) ∈ wsL_law0 := List.mem_of_getElem? (i := 415) (by decide +kernel)
theorem tw_416 : Cond.methodLink RX7 74 yX2_wordsOf ∈ wsL_law0 := List.mem_of_getElem? (i := 416) (by decide +kernel)
theorem tw_417 : Cond.methodLink RX3 62 yX3_beginToMark ∈ wsL_law0 := List.mem_of_getElem? (i := 417) (by decide +kernel)
theorem tw_418 : Cond.instanceMethod yX3_beginToMark ∈ wsL_law0 := List.mem_of_getElem? (i := 418) (by decide +kernel)
theorem tw_419 : Cond.selects RX3 yX3_beginToMark yX3_beginToMark ∈ wsL_law0 := List.mem_of_getElem? (i := 419) (by decide +kernel)
theorem tw_420 : Cond.code yX3_beginToMark cX3_beginToMark 2 none ∈ wsL_law0 := List.mem_of_getElem? (i := 420) (by decide +kernel)
theorem tw_421 : Cond.fieldLink RX3 84 "Tessera$Marking" "graph" "LTessera$Graph;" ∈ wsL_law0 := List.mem_of_getElem? (i := 421) (by decide +kernel)
theorem tw_422 : Cond.sameField "Tessera$Marking" "Tessera$Store" "graph" "LTessera$Graph;" ∈ wsL_law0 := List.mem_of_getElem? (i := 422) (by decide +kernel)
theorem tw_423 : Cond.methodLink RX3 115 yX2_rootAt ∈ wsL_law0 := List.mem_of_getElem? (i := 423) (by decide +kernel)
theorem tw_424 : Cond.instanceMethod yX2_rootAt ∈ wsL_law0 := List.mem_of_getElem? (i := 424) (by decide +kernel)
theorem tw_425 : Cond.selects RX2 yX2_rootAt yX2_rootAt ∈ wsL_law0 := List.mem_of_getElem? (i := 425) (by decide +kernel)
theorem tw_426 : Cond.code yX2_rootAt cX2_rootAt 2 (some .int) ∈ wsL_law0 := List.mem_of_getElem? (i := 426) (by decide +kernel)
theorem tw_427 : Cond.methodLink RX3 77 yX3_becomeGrey ∈ wsL_law0 := List.mem_of_getElem? (i := 427) (by decide +kernel)
theorem tw_428 : Cond.instanceMethod yX3_becomeGrey ∈ wsL_law0 := List.mem_of_getElem? (i := 428) (by decide +kernel)
theorem tw_429 : Cond.selects RX3 yX3_becomeGrey yX3_becomeGrey ∈ wsL_law0 := List.mem_of_getElem? (i := 429) (by decide +kernel)
theorem tw_430 : Cond.code yX3_becomeGrey cX3_becomeGrey 2 none ∈ wsL_law0 := List.mem_of_getElem? (i := 430) (by decide +kernel)
theorem tw_431 : Cond.methodLink RX3 74 yX3_colourOf ∈ wsL_law0 := List.mem_of_getElem? (i := 431) (by decide +kernel)
theorem tw_432 : Cond.instanceMethod yX3_colourOf ∈ wsL_law0 := List.mem_of_getElem? (i := 432) (by decide +kernel)
theorem tw_433 : Cond.selects RX3 yX3_colourOf yX3_colourOf ∈ wsL_law0 := List.mem_of_getElem? (i := 433) (by decide +kernel)
theorem tw_434 : Cond.code yX3_colourOf cX3_colourOf 2 (some .int) ∈ wsL_law0 := List.mem_of_getElem? (i := 434) (by decide +kernel)
theorem tw_435 : Cond.methodLink RX3 103 ⟨"Tessera$Marking", "has", "(I)Z"⟩ ∈ wsL_law0 := List.mem_of_getElem? (i := 435) (by decide +kernel)
theorem tw_436 : Cond.sameMethod "Tessera$Marking" "Tessera$Store" "has" "(I)Z" ∈ wsL_law0 := List.mem_of_getElem? (i := 436) (by decide +kernel)
theorem tw_437 : Cond.selects RX3 ⟨"Tessera$Marking", "has", "(I)Z"⟩ yX7_has ∈ wsL_law0 := List.mem_of_getElem? (i := 437) (by decide +kernel)
theorem tw_438 : Cond.methodLink RX3 106 yX2_isThing ∈ wsL_law0 := List.mem_of_getElem? (i := 438) (by decide +kernel)
theorem tw_439 : Cond.methodLink RX3 56 yX3_paint ∈ wsL_law0 := List.mem_of_getElem? (i := 439) (by decide +kernel)
theorem tw_440 : Cond.instanceMethod yX3_paint ∈ wsL_law0 := List.mem_of_getElem? (i := 440) (by decide +kernel)
theorem tw_441 : Cond.selects RX3 yX3_paint yX3_paint ∈ wsL_law0 := List.mem_of_getElem? (i := 441) (by decide +kernel)
theorem tw_442 : Cond.code yX3_paint cX3_paint 3 none ∈ wsL_law0 := List.mem_of_getElem? (i := 442) (by decide +kernel)
theorem tw_443 : Cond.methodLink RX3 118 yX5_add ∈ wsL_law0 := List.mem_of_getElem? (i := 443) (by decide +kernel)
theorem tw_444 : Cond.methodLink RX3 65 yX3_step ∈ wsL_law0 := List.mem_of_getElem? (i := 444) (by decide +kernel)
theorem tw_445 : Cond.instanceMethod yX3_step ∈ wsL_law0 := List.mem_of_getElem? (i := 445) (by decide +kernel)
theorem tw_446 : Cond.selects RX3 yX3_step yX3_step ∈ wsL_law0 := List.mem_of_getElem? (i := 446) (by decide +kernel)
theorem tw_447 : Cond.code yX3_step cX3_step 3 none ∈ wsL_law0 := List.mem_of_getElem? (i := 447) (by decide +kernel)
theorem tw_448 : Cond.fieldLink RX3 71 "Tessera$Row" "size" "I" ∈ wsL_law0 := List.mem_of_getElem? (i := 448) (by decide +kernel)
theorem tw_449 : Cond.fieldLink RX3 131 "Tessera$Marking" "work" "I" ∈ wsL_law0 := List.mem_of_getElem? (i := 449) (by decide +kernel)
theorem tw_450 : Cond.sameField "Tessera$Marking" "Tessera$Store" "work" "I" ∈ wsL_law0 := List.mem_of_getElem? (i := 450) (by decide +kernel)
theorem tw_451 : Cond.methodLink RX3 121 yX3_sweep ∈ wsL_law0 := List.mem_of_getElem? (i := 451) (by decide +kernel)
theorem tw_452 : Cond.instanceMethod yX3_sweep ∈ wsL_law0 := List.mem_of_getElem? (i := 452) (by decide +kernel)
theorem tw_453 : Cond.selects RX3 yX3_sweep yX3_sweep ∈ wsL_law0 := List.mem_of_getElem? (i := 453) (by decide +kernel)
theorem tw_454 : Cond.code yX3_sweep cX3_sweep 2 none ∈ wsL_law0 := List.mem_of_getElem? (i := 454) (by decide +kernel)
theorem tw_455 : Cond.fieldLink RX3 88 "Tessera$Graph" "count" "I" ∈ wsL_law0 := List.mem_of_getElem? (i := 455) (by decide +kernel)
theorem tw_456 : Cond.fieldLink RX3 137 "Tessera$Marking" "collectings" "I" ∈ wsL_law0 := List.mem_of_getElem? (i := 456) (by decide +kernel)
theorem tw_457 : Cond.sameField "Tessera$Marking" "Tessera$Store" "collectings" "I" ∈ wsL_law0 := List.mem_of_getElem? (i := 457) (by decide +kernel)
theorem tw_458 : Cond.methodLink RX3 59 ⟨"Tessera$Marking", "countHad", "()I"⟩ ∈ wsL_law0 := List.mem_of_getElem? (i := 458) (by decide +kernel)
theorem tw_459 : Cond.sameMethod "Tessera$Marking" "Tessera$Store" "countHad" "()I" ∈ wsL_law0 := List.mem_of_getElem? (i := 459) (by decide +kernel)
theorem tw_460 : Cond.selects RX3 ⟨"Tessera$Marking", "countHad", "()I"⟩ yX7_countHad ∈ wsL_law0 := List.mem_of_getElem? (i := 460) (by decide +kernel)
theorem tw_461 : Cond.methodLink RX3 134 ⟨"Tessera$Marking", "letGo", "(I)V"⟩ ∈ wsL_law0 := List.mem_of_getElem? (i := 461) (by decide +kernel)
theorem tw_462 : Cond.sameMethod "Tessera$Marking" "Tessera$Store" "letGo" "(I)V" ∈ wsL_law0 := List.mem_of_getElem? (i := 462) (by decide +kernel)
theorem tw_463 : Cond.selects RX3 ⟨"Tessera$Marking", "letGo", "(I)V"⟩ yX7_letGo ∈ wsL_law0 := List.mem_of_getElem? (i := 463) (by decide +kernel)
theorem tw_464 : Cond.methodLink RX3 97 yX5_get ∈ wsL_law0 := List.mem_of_getElem? (i := 464) (by decide +kernel)
theorem tw_465 : Cond.methodLink RX3 124 yX2_fieldsOf ∈ wsL_law0 := List.mem_of_getElem? (i := 465) (by decide +kernel)
theorem tw_466 : Cond.methodLink RX3 127 yX2_nameOf ∈ wsL_law0 := List.mem_of_getElem? (i := 466) (by decide +kernel)
theorem tw_467 : Cond.methodLink RX3 100 yX2_wordsOf ∈ wsL_law0 := List.mem_of_getElem? (i := 467) (by decide +kernel)
theorem tw_468 : Cond.methodLink RX3 41 ⟨"Tessera$Marking", "firstPlaceFor", "(I)I"⟩ ∈ wsL_law0 := List.mem_of_getElem? (i := 468) (by decide +kernel)
theorem tw_469 : Cond.sameMethod "Tessera$Marking" "Tessera$Scattered" "firstPlaceFor" "(I)I" ∈ wsL_law0 := List.mem_of_getElem? (i := 469) (by decide +kernel)
theorem tw_470 : Cond.selects RX3 ⟨"Tessera$Marking", "firstPlaceFor", "(I)I"⟩ yX6_firstPlaceFor ∈ wsL_law0 := List.mem_of_getElem? (i := 470) (by decide +kernel)
theorem tw_471 : Cond.methodLink RX3 45 yX3_collectNow ∈ wsL_law0 := List.mem_of_getElem? (i := 471) (by decide +kernel)
theorem tw_472 : Cond.instanceMethod yX3_collectNow ∈ wsL_law0 := List.mem_of_getElem? (i := 472) (by decide +kernel)
theorem tw_473 : Cond.selects RX3 yX3_collectNow yX3_collectNow ∈ wsL_law0 := List.mem_of_getElem? (i := 473) (by decide +kernel)
theorem tw_474 : Cond.code yX3_collectNow cX3_collectNow 3 (some .int) ∈ wsL_law0 := List.mem_of_getElem? (i := 474) (by decide +kernel)
theorem tw_475 : Cond.methodLink RX3 49 ⟨"Tessera$Marking", "breakDown", "()V"⟩ ∈ wsL_law0 := List.mem_of_getElem? (i := 475) (by decide +kernel)
theorem tw_476 : Cond.sameMethod "Tessera$Marking" "Tessera$Store" "breakDown" "()V" ∈ wsL_law0 := List.mem_of_getElem? (i := 476) (by decide +kernel)
theorem tw_477 : Cond.selects RX3 ⟨"Tessera$Marking", "breakDown", "()V"⟩ yX7_breakDown ∈ wsL_law0 := List.mem_of_getElem? (i := 477) (by decide +kernel)
theorem tw_478 : Cond.methodLink RX3 52 ⟨"Tessera$Marking", "put", "(II)V"⟩ ∈ wsL_law0 := List.mem_of_getElem? (i := 478) (by decide +kernel)
theorem tw_479 : Cond.sameMethod "Tessera$Marking" "Tessera$Store" "put" "(II)V" ∈ wsL_law0 := List.mem_of_getElem? (i := 479) (by decide +kernel)
theorem tw_480 : Cond.selects RX3 ⟨"Tessera$Marking", "put", "(II)V"⟩ yX7_put ∈ wsL_law0 := List.mem_of_getElem? (i := 480) (by decide +kernel)
theorem tw_481 : Cond.selects RX4 ⟨"Tessera$Store", "placeNew", "(I)V"⟩ yX4_placeNew ∈ wsL_law0 := List.mem_of_getElem? (i := 481) (by decide +kernel)
theorem tw_482 : Cond.instanceMethod yX4_placeNew ∈ wsL_law0 := List.mem_of_getElem? (i := 482) (by decide +kernel)
theorem tw_483 : Cond.code yX4_placeNew cX4_placeNew 3 none ∈ wsL_law0 := List.mem_of_getElem? (i := 483) (by decide +kernel)
theorem tw_484 : Cond.fieldLink RX4 49 "Tessera$Nursery" "graph" "LTessera$Graph;" ∈ wsL_law0 := List.mem_of_getElem? (i := 484) (by decide +kernel)
theorem tw_485 : Cond.sameField "Tessera$Nursery" "Tessera$Store" "graph" "LTessera$Graph;" ∈ wsL_law0 := List.mem_of_getElem? (i := 485) (by decide +kernel)
theorem tw_486 : Cond.fieldLink RX4 66 "Tessera$Nursery" "broken" "Z" ∈ wsL_law0 := List.mem_of_getElem? (i := 486) (by decide +kernel)
theorem tw_487 : Cond.sameField "Tessera$Nursery" "Tessera$Store" "broken" "Z" ∈ wsL_law0 := List.mem_of_getElem? (i := 487) (by decide +kernel)
theorem tw_488 : Cond.methodLink RX4 53 yX2_wordsOf ∈ wsL_law0 := List.mem_of_getElem? (i := 488) (by decide +kernel)
theorem tw_489 : Cond.methodLink RX4 59 yX4_freeTogether ∈ wsL_law0 := List.mem_of_getElem? (i := 489) (by decide +kernel)
theorem tw_490 : Cond.instanceMethod yX4_freeTogether ∈ wsL_law0 := List.mem_of_getElem? (i := 490) (by decide +kernel)
theorem tw_491 : Cond.selects RX4 yX4_freeTogether yX4_freeTogether ∈ wsL_law0 := List.mem_of_getElem? (i := 491) (by decide +kernel)
theorem tw_492 : Cond.code yX4_freeTogether cX4_freeTogether 1 (some .int) ∈ wsL_law0 := List.mem_of_getElem? (i := 492) (by decide +kernel)
theorem tw_493 : Cond.methodLink RX4 63 yX4_cleanUpYoung ∈ wsL_law0 := List.mem_of_getElem? (i := 493) (by decide +kernel)
theorem tw_494 : Cond.instanceMethod yX4_cleanUpYoung ∈ wsL_law0 := List.mem_of_getElem? (i := 494) (by decide +kernel)
theorem tw_495 : Cond.selects RX4 yX4_cleanUpYoung yX4_cleanUpYoung ∈ wsL_law0 := List.mem_of_getElem? (i := 495) (by decide +kernel)
theorem tw_496 : Cond.code yX4_cleanUpYoung cX4_cleanUpYoung 3 (some .int) ∈ wsL_law0 := List.mem_of_getElem? (i := 496) (by decide +kernel)
theorem tw_497 : Cond.fieldLink RX4 96 "Tessera$Row" "size" "I" ∈ wsL_law0 := List.mem_of_getElem? (i := 497) (by decide +kernel)
theorem tw_498 : Cond.methodLink RX4 112 yX4_wordsGrown ∈ wsL_law0 := List.mem_of_getElem? (i := 498) (by decide +kernel)
theorem tw_499 : Cond.instanceMethod yX4_wordsGrown ∈ wsL_law0 := List.mem_of_getElem? (i := 499) (by decide +kernel)
theorem tw_500 : Cond.selects RX4 yX4_wordsGrown yX4_wordsGrown ∈ wsL_law0 := List.mem_of_getElem? (i := 500) (by decide +kernel)
theorem tw_501 : Cond.code yX4_wordsGrown cX4_wordsGrown 3 (some .int) ∈ wsL_law0 := List.mem_of_getElem? (i := 501) (by decide +kernel)
theorem tw_502 : Cond.methodLink RX4 99 yX5_get ∈ wsL_law0 := List.mem_of_getElem? (i := 502) (by decide +kernel)
theorem tw_503 : Cond.methodLink RX4 137 yX4_isGrown ∈ wsL_law0 := List.mem_of_getElem? (i := 503) (by decide +kernel)
theorem tw_504 : Cond.instanceMethod yX4_isGrown ∈ wsL_law0 := List.mem_of_getElem? (i := 504) (by decide +kernel)
theorem tw_505 : Cond.selects RX4 yX4_isGrown yX4_isGrown ∈ wsL_law0 := List.mem_of_getElem? (i := 505) (by decide +kernel)
theorem tw_506 : Cond.code yX4_isGrown cX4_isGrown 2 (some .boolean) ∈ wsL_law0 := List.mem_of_getElem? (i := 506) (by decide +kernel)
theorem tw_507 : Cond.methodLink RX4 147 yX2_isThing ∈ wsL_law0 := List.mem_of_getElem? (i := 507) (by decide +kernel)
theorem tw_508 : Cond.methodLink RX4 70 yX4_collectNow ∈ wsL_law0 := List.mem_of_getElem? (i := 508) (by decide +kernel)
theorem tw_509 : Cond.instanceMethod yX4_collectNow ∈ wsL_law0 := List.mem_of_getElem? (i := 509) (by decide +kernel)
theorem tw_510 : Cond.selects RX4 yX4_collectNow yX4_collectNow ∈ wsL_law0 := List.mem_of_getElem? (i := 510) (by decide +kernel)
theorem tw_511 : Cond.code yX4_collectNow cX4_collectNow 3 (some .int) ∈ wsL_law0 := List.mem_of_getElem? (i := 511) (by decide +kernel)
theorem tw_512 : Cond.fieldLink RX4 106 "Tessera$Nursery" "work" "I" ∈ wsL_law0 := List.mem_of_getElem? (i := 512) (by decide +kernel)
theorem tw_513 : Cond.sameField "Tessera$Nursery" "Tessera$Store" "work" "I" ∈ wsL_law0 := List.mem_of_getElem? (i := 513) (by decide +kernel)
theorem tw_514 : Cond.fieldLink RX4 109 "Tessera$Nursery" "collectings" "I" ∈ wsL_law0 := List.mem_of_getElem? (i := 514) (by decide +kernel)
theorem tw_515 : Cond.sameField "Tessera$Nursery" "Tessera$Store" "collectings" "I" ∈ wsL_law0 := List.mem_of_getElem? (i := 515) (by decide +kernel)
theorem tw_516 : Cond.methodLink RX4 77 yX4_greatFits ∈ wsL_law0 := List.mem_of_getElem? (i := 516) (by decide +kernel)
theorem tw_517 : Cond.instanceMethod yX4_greatFits ∈ wsL_law0 := List.mem_of_getElem? (i := 517) (by decide +kernel)
theorem tw_518 : Cond.selects RX4 yX4_greatFits yX4_greatFits ∈ wsL_law0 := List.mem_of_getElem? (i := 518) (by decide +kernel)
theorem tw_519 : Cond.code yX4_greatFits cX4_greatFits 1 (some .boolean) ∈ wsL_law0 := List.mem_of_getElem? (i := 519) (by decide +kernel)
theorem tw_520 : Cond.methodLink RX4 127 ⟨"Tessera$Nursery", "wordsReached", "()I"⟩ ∈ wsL_law0 := List.mem_of_getElem? (i := 520) (by decide +kernel)
theorem tw_521 : Cond.sameMethod "Tessera$Nursery" "Tessera$Store" "wordsReached" "()I" ∈ wsL_law0 := List.mem_of_getElem? (i := 521) (by decide +kernel)
theorem tw_522 : Cond.selects RX4 ⟨"Tessera$Nursery", "wordsReached", "()I"⟩ yX7_wordsReached ∈ wsL_law0 := List.mem_of_getElem? (i := 522) (by decide +kernel)
theorem tw_523 : Cond.instanceMethod yX7_wordsReached ∈ wsL_law0 := List.mem_of_getElem? (i := 523) (by decide +kernel)
theorem tw_524 : Cond.code yX7_wordsReached cX7_wordsReached 3 (some .int) ∈ wsL_law0 := List.mem_of_getElem? (i := 524) (by decide +kernel)
theorem tw_525 : Cond.methodLink RX7 78 yX2_isReached ∈ wsL_law0 := List.mem_of_getElem? (i := 525) (by decide +kernel)
theorem tw_526 : Cond.instanceMethod yX2_isReached ∈ wsL_law0 := List.mem_of_getElem? (i := 526) (by decide +kernel)
theorem tw_527 : Cond.selects RX2 yX2_isReached yX2_isReached ∈ wsL_law0 := List.mem_of_getElem? (i := 527) (by decide +kernel)
theorem tw_528 : Cond.code yX2_isReached cX2_isReached 2 (some .boolean) ∈ wsL_law0 := List.mem_of_getElem? (i := 528) (by decide +kernel)
theorem tw_529 : Cond.methodLink RX4 81 ⟨"Tessera$Nursery", "breakDown", "()V"⟩ ∈ wsL_law0 := List.mem_of_getElem? (i := 529) (by decide +kernel)
theorem tw_530 : Cond.sameMethod "Tessera$Nursery" "Tessera$Store" "breakDown" "()V" ∈ wsL_law0 := List.mem_of_getElem? (i := 530) (by decide +kernel)
theorem tw_531 : Cond.selects RX4 ⟨"Tessera$Nursery", "breakDown", "()V"⟩ yX7_breakDown ∈ wsL_law0 := List.mem_of_getElem? (i := 531) (by decide +kernel)
theorem tw_532 : Cond.methodLink RX4 84 ⟨"Tessera$Nursery", "countHad", "()I"⟩ ∈ wsL_law0 := List.mem_of_getElem? (i := 532) (by decide +kernel)
theorem tw_533 : Cond.sameMethod "Tessera$Nursery" "Tessera$Store" "countHad" "()I" ∈ wsL_law0 := List.mem_of_getElem? (i := 533) (by decide +kernel)
theorem tw_534 : Cond.selects RX4 ⟨"Tessera$Nursery", "countHad", "()I"⟩ yX7_countHad ∈ wsL_law0 := List.mem_of_getElem? (i := 534) (by decide +kernel)
theorem tw_535 : Cond.methodLink RX4 87 yX4_findReached ∈ wsL_law0 := List.mem_of_getElem? (i := 535) (by decide +kernel)
theorem tw_536 : Cond.instanceMethod yX4_findReached ∈ wsL_law0 := List.mem_of_getElem? (i := 536) (by decide +kernel)
theorem tw_537 : Cond.selects RX4 yX4_findReached yX4_findReached ∈ wsL_law0 := List.mem_of_getElem? (i := 537) (by decide +kernel)
theorem tw_538 : Cond.code yX4_findReached cX4_findReached 1 none ∈ wsL_law0 := List.mem_of_getElem? (i := 538) (by decide +kernel)
theorem tw_539 : Cond.methodLink RX4 150 yX4_addReached ∈ wsL_law0 := List.mem_of_getElem? (i := 539) (by decide +kernel)
theorem tw_540 : Cond.instanceMethod yX4_addReached ∈ wsL_law0 := List.mem_of_getElem? (i := 540) (by decide +kernel)
theorem tw_541 : Cond.selects RX4 yX4_addReached yX4_addReached ∈ wsL_law0 := List.mem_of_getElem? (i := 541) (by decide +kernel)
theorem tw_542 : Cond.code yX4_addReached cX4_addReached 3 none ∈ wsL_law0 := List.mem_of_getElem? (i := 542) (by decide +kernel)
theorem tw_543 : Cond.methodLink RX4 154 yX2_isReached ∈ wsL_law0 := List.mem_of_getElem? (i := 543) (by decide +kernel)
theorem tw_544 : Cond.methodLink RX4 157 yX5_add ∈ wsL_law0 := List.mem_of_getElem? (i := 544) (by decide +kernel)
theorem tw_545 : Cond.methodLink RX4 90 ⟨"Tessera$Nursery", "letAllGo", "()V"⟩ ∈ wsL_law0 := List.mem_of_getElem? (i := 545) (by decide +kernel)
theorem tw_546 : Cond.sameMethod "Tessera$Nursery" "Tessera$Store" "letAllGo" "()V" ∈ wsL_law0 := List.mem_of_getElem? (i := 546) (by decide +kernel)
theorem tw_547 : Cond.selects RX4 ⟨"Tessera$Nursery", "letAllGo", "()V"⟩ yX7_letAllGo ∈ wsL_law0 := List.mem_of_getElem? (i := 547) (by decide +kernel)
theorem tw_548 : Cond.methodLink RX4 93 yX4_forgetThings ∈ wsL_law0 := List.mem_of_getElem? (i := 548) (by decide +kernel)
theorem tw_549 : Cond.selects RX4 yX4_forgetThings yX4_forgetThings ∈ wsL_law0 := List.mem_of_getElem? (i := 549) (by decide +kernel)
theorem tw_550 : Cond.methodLink RX4 102 yX4_putOld ∈ wsL_law0 := List.mem_of_getElem? (i := 550) (by decide +kernel)
theorem tw_551 : Cond.instanceMethod yX4_putOld ∈ wsL_law0 := List.mem_of_getElem? (i := 551) (by decide +kernel)
theorem tw_552 : Cond.selects RX4 yX4_putOld yX4_putOld ∈ wsL_law0 := List.mem_of_getElem? (i := 552) (by decide +kernel)
theorem tw_553 : Cond.code yX4_putOld cX4_putOld 2 none ∈ wsL_law0 := List.mem_of_getElem? (i := 553) (by decide +kernel)
theorem tw_554 : Cond.methodLink RX4 172 ⟨"Tessera$Nursery", "put", "(II)V"⟩ ∈ wsL_law0 := List.mem_of_getElem? (i := 554) (by decide +kernel)
theorem tw_555 : Cond.sameMethod "Tessera$Nursery" "Tessera$Store" "put" "(II)V" ∈ wsL_law0 := List.mem_of_getElem? (i := 555) (by decide +kernel)
theorem tw_556 : Cond.selects RX4 ⟨"Tessera$Nursery", "put", "(II)V"⟩ yX7_put ∈ wsL_law0 := List.mem_of_getElem? (i := 556) (by decide +kernel)
theorem tw_557 : Cond.methodLink RX4 115 yX4_findYoung ∈ wsL_law0 := List.mem_of_getElem? (i := 557) (by decide +kernel)
theorem tw_558 : Cond.instanceMethod yX4_findYoung ∈ wsL_law0 := List.mem_of_getElem? (i := 558) (by decide +kernel)
theorem tw_559 : Cond.selects RX4 yX4_findYoung yX4_findYoung ∈ wsL_law0 := List.mem_of_getElem? (i := 559) (by decide +kernel)
theorem tw_560 : Cond.code yX4_findYoung cX4_findYoung 2 none ∈ wsL_law0 := List.mem_of_getElem? (i := 560) (by decide +kernel)
theorem tw_561 : Cond.fieldLink RX4 166 "Tessera$Graph" "count" "I" ∈ wsL_law0 := List.mem_of_getElem? (i := 561) (by decide +kernel)
theorem tw_562 : Cond.methodLink RX4 160 yX2_rootAt ∈ wsL_law0 := List.mem_of_getElem? (i := 562) (by decide +kernel)
theorem tw_563 : Cond.methodLink RX4 163 yX4_addYoung ∈ wsL_law0 := List.mem_of_getElem? (i := 563) (by decide +kernel)
theorem tw_564 : Cond.instanceMethod yX4_addYoung ∈ wsL_law0 := List.mem_of_getElem? (i := 564) (by decide +kernel)
theorem tw_565 : Cond.selects RX4 yX4_addYoung yX4_addYoung ∈ wsL_law0 := List.mem_of_getElem? (i := 565) (by decide +kernel)
theorem tw_566 : Cond.code yX4_addYoung cX4_addYoung 2 none ∈ wsL_law0 := List.mem_of_getElem? (i := 566) (by decide +kernel)
theorem tw_567 : Cond.methodLink RX4 134 yX5_holds ∈ wsL_law0 := List.mem_of_getElem? (i := 567) (by decide +kernel)
theorem tw_568 : Cond.methodLink RX4 169 yX4_addYoungNamedBy ∈ wsL_law0 := List.mem_of_getElem? (i := 568) (by decide +kernel)
theorem tw_569 : Cond.instanceMethod yX4_addYoungNamedBy ∈ wsL_law0 := List.mem_of_getElem? (i := 569) (by decide +kernel)
theorem tw_570 : Cond.selects RX4 yX4_addYoungNamedBy yX4_addYoungNamedBy ∈ wsL_law0 := List.mem_of_getElem? (i := 570) (by decide +kernel)
theorem tw_571 : Cond.code yX4_addYoungNamedBy cX4_addYoungNamedBy 3 none ∈ wsL_law0 := List.mem_of_getElem? (i := 571) (by decide +kernel)
theorem tw_572 : Cond.methodLink RX4 140 yX2_fieldsOf ∈ wsL_law0 := List.mem_of_getElem? (i := 572) (by decide +kernel)
theorem tw_573 : Cond.methodLink RX4 143 yX2_nameOf ∈ wsL_law0 := List.mem_of_getElem? (i := 573) (by decide +kernel)
theorem tw_574 : Cond.methodLink RX4 118 ⟨"Tessera$Nursery", "letGo", "(I)V"⟩ ∈ wsL_law0 := List.mem_of_getElem? (i := 574) (by decide +kernel)
theorem tw_575 : Cond.sameMethod "Tessera$Nursery" "Tessera$Store" "letGo" "(I)V" ∈ wsL_law0 := List.mem_of_getElem? (i := 575) (by decide +kernel)
theorem tw_576 : Cond.selects RX4 ⟨"Tessera$Nursery", "letGo", "(I)V"⟩ yX7_letGo ∈ wsL_law0 := List.mem_of_getElem? (i := 576) (by decide +kernel)
theorem tw_577 : Cond.methodLink RX4 121 yX4_moveFound ∈ wsL_law0 := List.mem_of_getElem? (i := 577) (by decide +kernel)
theorem tw_578 : Cond.instanceMethod yX4_moveFound ∈ wsL_law0 := List.mem_of_getElem? (i := 578) (by decide +kernel)
theorem tw_579 : Cond.selects RX4 yX4_moveFound yX4_moveFound ∈ wsL_law0 := List.mem_of_getElem? (i := 579) (by decide +kernel)
theorem tw_580 : Cond.code yX4_moveFound cX4_moveFound 3 none ∈ wsL_law0 := List.mem_of_getElem? (i := 580) (by decide +kernel)
theorem tw_581 : Cond.methodLink RX4 73 yX4_putYoung ∈ wsL_law0 := List.mem_of_getElem? (i := 581) (by decide +kernel)
theorem tw_582 : Cond.instanceMethod yX4_putYoung ∈ wsL_law0 := List.mem_of_getElem? (i := 582) (by decide +kernel)
theorem tw_583 : Cond.selects RX4 yX4_putYoung yX4_putYoung ∈ wsL_law0 := List.mem_of_getElem? (i := 583) (by decide +kernel)
theorem tw_584 : Cond.code yX4_putYoung cX4_putYoung 3 none ∈ wsL_law0 := List.mem_of_getElem? (i := 584) (by decide +kernel)
theorem tw_585 : Cond.methodLink RX8 92 yX8_nameByRoot ∈ wsL_law0 := List.mem_of_getElem? (i := 585) (by decide +kernel)
theorem tw_586 : Cond.instanceMethod yX8_nameByRoot ∈ wsL_law0 := List.mem_of_getElem? (i := 586) (by decide +kernel)
theorem tw_587 : Cond.selects RX8 yX8_nameByRoot yX8_nameByRoot ∈ wsL_law0 := List.mem_of_getElem? (i := 587) (by decide +kernel)
theorem tw_588 : Cond.code yX8_nameByRoot cX8_nameByRoot 4 (some .int) ∈ wsL_law0 := List.mem_of_getElem? (i := 588) (by decide +kernel)
theorem tw_589 : Cond.methodLink RX8 279 yX2_rootAt ∈ wsL_law0 := List.mem_of_getElem? (i := 589) (by decide +kernel)
theorem tw_590 : Cond.methodLink RX8 282 yX2_nameByRoot ∈ wsL_law0 := List.mem_of_getElem? (i := 590) (by decide +kernel)
theorem tw_591 : Cond.instanceMethod yX2_nameByRoot ∈ wsL_law0 := List.mem_of_getElem? (i := 591) (by decide +kernel)
theorem tw_592 : Cond.selects RX2 yX2_nameByRoot yX2_nameByRoot ∈ wsL_law0 := List.mem_of_getElem? (i := 592) (by decide +kernel)
theorem tw_593 : Cond.code yX2_nameByRoot cX2_nameByRoot 3 none ∈ wsL_law0 := List.mem_of_getElem? (i := 593) (by decide +kernel)
theorem tw_594 : Cond.methodLink RX2 55 yX2_measure ∈ wsL_law0 := List.mem_of_getElem? (i := 594) (by decide +kernel)
theorem tw_595 : Cond.instanceMethod yX2_measure ∈ wsL_law0 := List.mem_of_getElem? (i := 595) (by decide +kernel)
theorem tw_596 : Cond.selects RX2 yX2_measure yX2_measure ∈ wsL_law0 := List.mem_of_getElem? (i := 596) (by decide +kernel)
theorem tw_597 : Cond.code yX2_measure cX2_measure 2 none ∈ wsL_law0 := List.mem_of_getElem? (i := 597) (by decide +kernel)
theorem tw_598 : Cond.methodLink RX2 80 yX2_trace ∈ wsL_law0 := List.mem_of_getElem? (i := 598) (by decide +kernel)
theorem tw_599 : Cond.methodLink RX2 47 yX2_isThing ∈ wsL_law0 := List.mem_of_getElem? (i := 599) (by decide +kernel)
theorem tw_600 : Cond.methodLink RX2 84 yX2_measureNamedBy ∈ wsL_law0 := List.mem_of_getElem? (i := 600) (by decide +kernel)
theorem tw_601 : Cond.instanceMethod yX2_measureNamedBy ∈ wsL_law0 := List.mem_of_getElem? (i := 601) (by decide +kernel)
theorem tw_602 : Cond.selects RX2 yX2_measureNamedBy yX2_measureNamedBy ∈ wsL_law0 := List.mem_of_getElem? (i := 602) (by decide +kernel)
theorem tw_603 : Cond.code yX2_measureNamedBy cX2_measureNamedBy 5 none ∈ wsL_law0 := List.mem_of_getElem? (i := 603) (by decide +kernel)
theorem tw_604 : Cond.methodLink RX2 87 yX2_distanceOf ∈ wsL_law0 := List.mem_of_getElem? (i := 604) (by decide +kernel)
theorem tw_605 : Cond.instanceMethod yX2_distanceOf ∈ wsL_law0 := List.mem_of_getElem? (i := 605) (by decide +kernel)
theorem tw_606 : Cond.selects RX2 yX2_distanceOf yX2_distanceOf ∈ wsL_law0 := List.mem_of_getElem? (i := 606) (by decide +kernel)
theorem tw_607 : Cond.code yX2_distanceOf cX2_distanceOf 2 (some .int) ∈ wsL_law0 := List.mem_of_getElem? (i := 607) (by decide +kernel)
theorem tw_608 : Cond.methodLink RX8 122 yX8_tellStores ∈ wsL_law0 := List.mem_of_getElem? (i := 608) (by decide +kernel)
theorem tw_609 : Cond.instanceMethod yX8_tellStores ∈ wsL_law0 := List.mem_of_getElem? (i := 609) (by decide +kernel)
theorem tw_610 : Cond.selects RX8 yX8_tellStores yX8_tellStores ∈ wsL_law0 := List.mem_of_getElem? (i := 610) (by decide +kernel)
theorem tw_611 : Cond.code yX8_tellStores cX8_tellStores 5 none ∈ wsL_law0 := List.mem_of_getElem? (i := 611) (by decide +kernel)
theorem tw_612 : Cond.methodLink RX8 284 ⟨"Tessera$Store", "learnNaming", "(III)V"⟩ ∈ wsL_law0 := List.mem_of_getElem? (i := 612) (by decide +kernel)
theorem tw_613 : Cond.sameMethod "Tessera$Store" "Tessera$Store" "learnNaming" "(III)V" ∈ wsL_law0 := List.mem_of_getElem? (i := 613) (by decide +kernel)
theorem tw_614 : Cond.selects RX0 ⟨"Tessera$Store", "learnNaming", "(III)V"⟩ yX7_learnNaming ∈ wsL_law0 := List.mem_of_getElem? (i := 614) (by decide +kernel)
theorem tw_615 : Cond.instanceMethod yX7_learnNaming ∈ wsL_law0 := List.mem_of_getElem? (i := 615) (by decide +kernel)
theorem tw_616 : Cond.code yX7_learnNaming cX7_learnNaming 4 none ∈ wsL_law0 := List.mem_of_getElem? (i := 616) (by decide +kernel)
theorem tw_617 : Cond.instanceMethod ⟨"Tessera$Store", "learnNaming", "(III)V"⟩ ∈ wsL_law0 := List.mem_of_getElem? (i := 617) (by decide +kernel)
theorem tw_618 : Cond.selects RX1 ⟨"Tessera$Store", "learnNaming", "(III)V"⟩ yX1_learnNaming ∈ wsL_law0 := List.mem_of_getElem? (i := 618) (by decide +kernel)
theorem tw_619 : Cond.instanceMethod yX1_learnNaming ∈ wsL_law0 := List.mem_of_getElem? (i := 619) (by decide +kernel)
theorem tw_620 : Cond.code yX1_learnNaming cX1_learnNaming 4 none ∈ wsL_law0 := List.mem_of_getElem? (i := 620) (by decide +kernel)
theorem tw_621 : Cond.methodLink RX1 91 yX1_lower ∈ wsL_law0 := List.mem_of_getElem? (i := 621) (by decide +kernel)
theorem tw_622 : Cond.instanceMethod yX1_lower ∈ wsL_law0 := List.mem_of_getElem? (i := 622) (by decide +kernel)
theorem tw_623 : Cond.selects RX1 yX1_lower yX1_lower ∈ wsL_law0 := List.mem_of_getElem? (i := 623) (by decide +kernel)
theorem tw_624 : Cond.code yX1_lower cX1_lower 5 none ∈ wsL_law0 := List.mem_of_getElem? (i := 624) (by decide +kernel)
theorem tw_625 : Cond.methodLink RX1 97 yX1_lowerOnce ∈ wsL_law0 := List.mem_of_getElem? (i := 625) (by decide +kernel)
theorem tw_626 : Cond.instanceMethod yX1_lowerOnce ∈ wsL_law0 := List.mem_of_getElem? (i := 626) (by decide +kernel)
theorem tw_627 : Cond.selects RX1 yX1_lowerOnce yX1_lowerOnce ∈ wsL_law0 := List.mem_of_getElem? (i := 627) (by decide +kernel)
theorem tw_628 : Cond.code yX1_lowerOnce cX1_lowerOnce 2 none ∈ wsL_law0 := List.mem_of_getElem? (i := 628) (by decide +kernel)
theorem tw_629 : Cond.selects RX3 ⟨"Tessera$Store", "learnNaming", "(III)V"⟩ yX3_learnNaming ∈ wsL_law0 := List.mem_of_getElem? (i := 629) (by decide +kernel)
theorem tw_630 : Cond.instanceMethod yX3_learnNaming ∈ wsL_law0 := List.mem_of_getElem? (i := 630) (by decide +kernel)
theorem tw_631 : Cond.code yX3_learnNaming cX3_learnNaming 4 none ∈ wsL_law0 := List.mem_of_getElem? (i := 631) (by decide +kernel)
theorem tw_632 : Cond.selects RX4 ⟨"Tessera$Store", "learnNaming", "(III)V"⟩ yX7_learnNaming ∈ wsL_law0 := List.mem_of_getElem? (i := 632) (by decide +kernel)
theorem tw_633 : Cond.methodLink RX8 96 yX8_closePauses ∈ wsL_law0 := List.mem_of_getElem? (i := 633) (by decide +kernel)
theorem tw_634 : Cond.instanceMethod yX8_closePauses ∈ wsL_law0 := List.mem_of_getElem? (i := 634) (by decide +kernel)
theorem tw_635 : Cond.selects RX8 yX8_closePauses yX8_closePauses ∈ wsL_law0 := List.mem_of_getElem? (i := 635) (by decide +kernel)
theorem tw_636 : Cond.code yX8_closePauses cX8_closePauses 2 none ∈ wsL_law0 := List.mem_of_getElem? (i := 636) (by decide +kernel)
theorem tw_637 : Cond.methodLink RX8 155 ⟨"Tessera$Store", "closePause", "()V"⟩ ∈ wsL_law0 := List.mem_of_getElem? (i := 637) (by decide +kernel)
theorem tw_638 : Cond.sameMethod "Tessera$Store" "Tessera$Store" "closePause" "()V" ∈ wsL_law0 := List.mem_of_getElem? (i := 638) (by decide +kernel)
theorem tw_639 : Cond.selects RX0 ⟨"Tessera$Store", "closePause", "()V"⟩ yX7_closePause ∈ wsL_law0 := List.mem_of_getElem? (i := 639) (by decide +kernel)
theorem tw_640 : Cond.instanceMethod yX7_closePause ∈ wsL_law0 := List.mem_of_getElem? (i := 640) (by decide +kernel)
theorem tw_641 : Cond.code yX7_closePause cX7_closePause 1 none ∈ wsL_law0 := List.mem_of_getElem? (i := 641) (by decide +kernel)
theorem tw_642 : Cond.methodLink RX7 56 Lib.Math.max.name ∈ wsL_law0 := List.mem_of_getElem? (i := 642) (by decide +kernel)
theorem tw_643 : Cond.static Lib.Math.max.name ∈ wsL_law0 := List.mem_of_getElem? (i := 643) (by decide +kernel)
theorem tw_644 : Cond.initialized "java/lang/Math" ∈ wsL_law0 := List.mem_of_getElem? (i := 644) (by decide +kernel)
theorem tw_645 : Cond.code Lib.Math.max.name Lib.Math.max.code 2 (some .int) ∈ wsL_law0 := List.mem_of_getElem? (i := 645) (by decide +kernel)
theorem tw_646 : Cond.selects RX1 ⟨"Tessera$Store", "closePause", "()V"⟩ yX7_closePause ∈ wsL_law0 := List.mem_of_getElem? (i := 646) (by decide +kernel)
theorem tw_647 : Cond.selects RX3 ⟨"Tessera$Store", "closePause", "()V"⟩ yX7_closePause ∈ wsL_law0 := List.mem_of_getElem? (i := 647) (by decide +kernel)
theorem tw_648 : Cond.selects RX4 ⟨"Tessera$Store", "closePause", "()V"⟩ yX7_closePause ∈ wsL_law0 := List.mem_of_getElem? (i := 648) (by decide +kernel)
theorem tw_653 : Cond.methodLink RX8 112 yX8_checkNameable ∈ wsL_law0 := List.mem_of_getElem? (i := 653) (by decide +kernel)
theorem tw_654 : Cond.instanceMethod yX8_checkNameable ∈ wsL_law0 := List.mem_of_getElem? (i := 654) (by decide +kernel)
theorem tw_655 : Cond.selects RX8 yX8_checkNameable yX8_checkNameable ∈ wsL_law0 := List.mem_of_getElem? (i := 655) (by decide +kernel)
theorem tw_656 : Cond.code yX8_checkNameable cX8_checkNameable 2 none ∈ wsL_law0 := List.mem_of_getElem? (i := 656) (by decide +kernel)
theorem tw_657 : Cond.methodLink RX8 99 yX2_isReached ∈ wsL_law0 := List.mem_of_getElem? (i := 657) (by decide +kernel)
theorem tw_659 : Cond.instanceMethod yX8_ofThing ∈ wsL_law0 := List.mem_of_getElem? (i := 659) (by decide +kernel)
theorem tw_660 : Cond.selects RX8 yX8_ofThing yX8_ofThing ∈ wsL_law0 := List.mem_of_getElem? (i := 660) (by decide +kernel)
theorem tw_661 : Cond.code yX8_ofThing cX8_ofThing 3 (some .int) ∈ wsL_law0 := List.mem_of_getElem? (i := 661) (by decide +kernel)
theorem tw_662 : Cond.methodLink RX8 125 yX8_checkThing ∈ wsL_law0 := List.mem_of_getElem? (i := 662) (by decide +kernel)
theorem tw_663 : Cond.instanceMethod yX8_checkThing ∈ wsL_law0 := List.mem_of_getElem? (i := 663) (by decide +kernel)
theorem tw_664 : Cond.selects RX8 yX8_checkThing yX8_checkThing ∈ wsL_law0 := List.mem_of_getElem? (i := 664) (by decide +kernel)
theorem tw_665 : Cond.code yX8_checkThing cX8_checkThing 2 none ∈ wsL_law0 := List.mem_of_getElem? (i := 665) (by decide +kernel)
theorem tw_666 : Cond.methodLink RX8 266 yX2_isThing ∈ wsL_law0 := List.mem_of_getElem? (i := 666) (by decide +kernel)
theorem tw_667 : Cond.methodLink RX8 128 yX8_checkWhat ∈ wsL_law0 := List.mem_of_getElem? (i := 667) (by decide +kernel)
theorem tw_668 : Cond.static yX8_checkWhat ∈ wsL_law0 := List.mem_of_getElem? (i := 668) (by decide +kernel)
theorem tw_669 : Cond.code yX8_checkWhat cX8_checkWhat 2 none ∈ wsL_law0 := List.mem_of_getElem? (i := 669) (by decide +kernel)
theorem tw_670 : Cond.methodLink RX8 132 yX2_fieldsOf ∈ wsL_law0 := List.mem_of_getElem? (i := 670) (by decide +kernel)
theorem tw_671 : Cond.methodLink RX8 135 yX8_asNumber ∈ wsL_law0 := List.mem_of_getElem? (i := 671) (by decide +kernel)
theorem tw_672 : Cond.static yX8_asNumber ∈ wsL_law0 := List.mem_of_getElem? (i := 672) (by decide +kernel)
theorem tw_673 : Cond.code yX8_asNumber cX8_asNumber 1 (some .int) ∈ wsL_law0 := List.mem_of_getElem? (i := 673) (by decide +kernel)
theorem tw_674 : Cond.methodLink RX8 139 yX2_distanceOf ∈ wsL_law0 := List.mem_of_getElem? (i := 674) (by decide +kernel)
theorem tw_679 : Cond.methodLink RX8 103 yX2_hasField ∈ wsL_law0 := List.mem_of_getElem? (i := 679) (by decide +kernel)
theorem tw_680 : Cond.instanceMethod yX2_hasField ∈ wsL_law0 := List.mem_of_getElem? (i := 680) (by decide +kernel)
theorem tw_681 : Cond.selects RX2 yX2_hasField yX2_hasField ∈ wsL_law0 := List.mem_of_getElem? (i := 681) (by decide +kernel)
theorem tw_682 : Cond.code yX2_hasField cX2_hasField 3 (some .boolean) ∈ wsL_law0 := List.mem_of_getElem? (i := 682) (by decide +kernel)
theorem tw_683 : Cond.methodLink RX8 115 yX2_nameOf ∈ wsL_law0 := List.mem_of_getElem? (i := 683) (by decide +kernel)
theorem tw_684 : Cond.methodLink RX8 118 yX2_nameByField ∈ wsL_law0 := List.mem_of_getElem? (i := 684) (by decide +kernel)
theorem tw_685 : Cond.instanceMethod yX2_nameByField ∈ wsL_law0 := List.mem_of_getElem? (i := 685) (by decide +kernel)
theorem tw_686 : Cond.selects RX2 yX2_nameByField yX2_nameByField ∈ wsL_law0 := List.mem_of_getElem? (i := 686) (by decide +kernel)
theorem tw_687 : Cond.code yX2_nameByField cX2_nameByField 4 none ∈ wsL_law0 := List.mem_of_getElem? (i := 687) (by decide +kernel)
theorem tw_688 : Cond.methodLink RX2 51 yX2_hasField ∈ wsL_law0 := List.mem_of_getElem? (i := 688) (by decide +kernel)
theorem tw_697 : Cond.methodLink RX8 165 ⟨"Tessera$Marking", "openPause", "()V"⟩ ∈ wsL_law0 := List.mem_of_getElem? (i := 697) (by decide +kernel)
theorem tw_698 : Cond.sameMethod "Tessera$Marking" "Tessera$Store" "openPause" "()V" ∈ wsL_law0 := List.mem_of_getElem? (i := 698) (by decide +kernel)
theorem tw_699 : Cond.selects RX3 ⟨"Tessera$Marking", "openPause", "()V"⟩ yX7_openPause ∈ wsL_law0 := List.mem_of_getElem? (i := 699) (by decide +kernel)
theorem tw_700 : Cond.methodLink RX8 166 yX3_goOn ∈ wsL_law0 := List.mem_of_getElem? (i := 700) (by decide +kernel)
theorem tw_701 : Cond.instanceMethod yX3_goOn ∈ wsL_law0 := List.mem_of_getElem? (i := 701) (by decide +kernel)
theorem tw_702 : Cond.selects RX3 yX3_goOn yX3_goOn ∈ wsL_law0 := List.mem_of_getElem? (i := 702) (by decide +kernel)
theorem tw_703 : Cond.code yX3_goOn cX3_goOn 3 (some .int) ∈ wsL_law0 := List.mem_of_getElem? (i := 703) (by decide +kernel)
theorem tw_704 : Cond.fieldLink RX3 68 "Tessera$Marking" "broken" "Z" ∈ wsL_law0 := List.mem_of_getElem? (i := 704) (by decide +kernel)
theorem tw_705 : Cond.sameField "Tessera$Marking" "Tessera$Store" "broken" "Z" ∈ wsL_law0 := List.mem_of_getElem? (i := 705) (by decide +kernel)
theorem tw_706 : Cond.methodLink RX8 169 ⟨"Tessera$Marking", "closePause", "()V"⟩ ∈ wsL_law0 := List.mem_of_getElem? (i := 706) (by decide +kernel)
theorem tw_707 : Cond.sameMethod "Tessera$Marking" "Tessera$Store" "closePause" "()V" ∈ wsL_law0 := List.mem_of_getElem? (i := 707) (by decide +kernel)
theorem tw_708 : Cond.selects RX3 ⟨"Tessera$Marking", "closePause", "()V"⟩ yX7_closePause ∈ wsL_law0 := List.mem_of_getElem? (i := 708) (by decide +kernel)
theorem tw_710 : Cond.instanceMethod yX8_told ∈ wsL_law0 := List.mem_of_getElem? (i := 710) (by decide +kernel)
theorem tw_711 : Cond.selects RX8 yX8_told yX8_told ∈ wsL_law0 := List.mem_of_getElem? (i := 711) (by decide +kernel)
theorem tw_712 : Cond.code yX8_told cX8_told 4 (some .int) ∈ wsL_law0 := List.mem_of_getElem? (i := 712) (by decide +kernel)
theorem tw_713 : Cond.fieldLink RX8 182 "Tessera$Store" "work" "I" ∈ wsL_law0 := List.mem_of_getElem? (i := 713) (by decide +kernel)
theorem tw_714 : Cond.fieldLink RX8 185 "Tessera$Store" "longestPause" "I" ∈ wsL_law0 := List.mem_of_getElem? (i := 714) (by decide +kernel)
theorem tw_715 : Cond.fieldLink RX8 191 "Tessera$Store" "collectings" "I" ∈ wsL_law0 := List.mem_of_getElem? (i := 715) (by decide +kernel)
theorem tw_716 : Cond.methodLink RX8 144 yX8_storeOf ∈ wsL_law0 := List.mem_of_getElem? (i := 716) (by decide +kernel)
theorem tw_717 : Cond.instanceMethod yX8_storeOf ∈ wsL_law0 := List.mem_of_getElem? (i := 717) (by decide +kernel)
theorem tw_718 : Cond.selects RX8 yX8_storeOf yX8_storeOf ∈ wsL_law0 := List.mem_of_getElem? (i := 718) (by decide +kernel)
theorem tw_719 : Cond.code yX8_storeOf cX8_storeOf 2 (some (.object "Tessera$Store")) ∈ wsL_law0 := List.mem_of_getElem? (i := 719) (by decide +kernel)
theorem tw_720 : Cond.methodLink RX8 173 ⟨"Tessera$Store", "countHad", "()I"⟩ ∈ wsL_law0 := List.mem_of_getElem? (i := 720) (by decide +kernel)
theorem tw_721 : Cond.sameMethod "Tessera$Store" "Tessera$Store" "countHad" "()I" ∈ wsL_law0 := List.mem_of_getElem? (i := 721) (by decide +kernel)
theorem tw_722 : Cond.selects RX0 ⟨"Tessera$Store", "countHad", "()I"⟩ yX7_countHad ∈ wsL_law0 := List.mem_of_getElem? (i := 722) (by decide +kernel)
theorem tw_723 : Cond.selects RX1 ⟨"Tessera$Store", "countHad", "()I"⟩ yX7_countHad ∈ wsL_law0 := List.mem_of_getElem? (i := 723) (by decide +kernel)
theorem tw_724 : Cond.selects RX3 ⟨"Tessera$Store", "countHad", "()I"⟩ yX7_countHad ∈ wsL_law0 := List.mem_of_getElem? (i := 724) (by decide +kernel)
theorem tw_725 : Cond.selects RX4 ⟨"Tessera$Store", "countHad", "()I"⟩ yX7_countHad ∈ wsL_law0 := List.mem_of_getElem? (i := 725) (by decide +kernel)
theorem tw_726 : Cond.methodLink RX8 176 ⟨"Tessera$Store", "wordsHad", "()I"⟩ ∈ wsL_law0 := List.mem_of_getElem? (i := 726) (by decide +kernel)
theorem tw_727 : Cond.sameMethod "Tessera$Store" "Tessera$Store" "wordsHad" "()I" ∈ wsL_law0 := List.mem_of_getElem? (i := 727) (by decide +kernel)
theorem tw_728 : Cond.selects RX0 ⟨"Tessera$Store", "wordsHad", "()I"⟩ yX7_wordsHad ∈ wsL_law0 := List.mem_of_getElem? (i := 728) (by decide +kernel)
theorem tw_729 : Cond.selects RX1 ⟨"Tessera$Store", "wordsHad", "()I"⟩ yX7_wordsHad ∈ wsL_law0 := List.mem_of_getElem? (i := 729) (by decide +kernel)
theorem tw_730 : Cond.selects RX3 ⟨"Tessera$Store", "wordsHad", "()I"⟩ yX7_wordsHad ∈ wsL_law0 := List.mem_of_getElem? (i := 730) (by decide +kernel)
theorem tw_731 : Cond.selects RX4 ⟨"Tessera$Store", "wordsHad", "()I"⟩ yX7_wordsHad ∈ wsL_law0 := List.mem_of_getElem? (i := 731) (by decide +kernel)
theorem tw_732 : Cond.methodLink RX8 179 ⟨"Tessera$Store", "countUnreached", "()I"⟩ ∈ wsL_law0 := List.mem_of_getElem? (i := 732) (by decide +kernel)
theorem tw_733 : Cond.sameMethod "Tessera$Store" "Tessera$Store" "countUnreached" "()I" ∈ wsL_law0 := List.mem_of_getElem? (i := 733) (by decide +kernel)
theorem tw_734 : Cond.selects RX0 ⟨"Tessera$Store", "countUnreached", "()I"⟩ yX7_countUnreached ∈ wsL_law0 := List.mem_of_getElem? (i := 734) (by decide +kernel)
theorem tw_735 : Cond.instanceMethod yX7_countUnreached ∈ wsL_law0 := List.mem_of_getElem? (i := 735) (by decide +kernel)
theorem tw_736 : Cond.code yX7_countUnreached cX7_countUnreached 3 (some .int) ∈ wsL_law0 := List.mem_of_getElem? (i := 736) (by decide +kernel)
theorem tw_737 : Cond.selects RX1 ⟨"Tessera$Store", "countUnreached", "()I"⟩ yX7_countUnreached ∈ wsL_law0 := List.mem_of_getElem? (i := 737) (by decide +kernel)
theorem tw_738 : Cond.selects RX3 ⟨"Tessera$Store", "countUnreached", "()I"⟩ yX7_countUnreached ∈ wsL_law0 := List.mem_of_getElem? (i := 738) (by decide +kernel)
theorem tw_739 : Cond.selects RX4 ⟨"Tessera$Store", "countUnreached", "()I"⟩ yX7_countUnreached ∈ wsL_law0 := List.mem_of_getElem? (i := 739) (by decide +kernel)
theorem tw_740 : Cond.methodLink RX8 188 ⟨"Tessera$Store", "freeTogether", "()I"⟩ ∈ wsL_law0 := List.mem_of_getElem? (i := 740) (by decide +kernel)
theorem tw_741 : Cond.sameMethod "Tessera$Store" "Tessera$Store" "freeTogether" "()I" ∈ wsL_law0 := List.mem_of_getElem? (i := 741) (by decide +kernel)
theorem tw_742 : Cond.selects RX0 ⟨"Tessera$Store", "freeTogether", "()I"⟩ yX0_freeTogether ∈ wsL_law0 := List.mem_of_getElem? (i := 742) (by decide +kernel)
theorem tw_743 : Cond.selects RX1 ⟨"Tessera$Store", "freeTogether", "()I"⟩ yX6_freeTogether ∈ wsL_law0 := List.mem_of_getElem? (i := 743) (by decide +kernel)
theorem tw_744 : Cond.instanceMethod yX6_freeTogether ∈ wsL_law0 := List.mem_of_getElem? (i := 744) (by decide +kernel)
theorem tw_745 : Cond.code yX6_freeTogether cX6_freeTogether 4 (some .int) ∈ wsL_law0 := List.mem_of_getElem? (i := 745) (by decide +kernel)
theorem tw_746 : Cond.methodLink RX6 33 Lib.Math.max.name ∈ wsL_law0 := List.mem_of_getElem? (i := 746) (by decide +kernel)
theorem tw_747 : Cond.selects RX3 ⟨"Tessera$Store", "freeTogether", "()I"⟩ yX6_freeTogether ∈ wsL_law0 := List.mem_of_getElem? (i := 747) (by decide +kernel)
theorem tw_748 : Cond.selects RX4 ⟨"Tessera$Store", "freeTogether", "()I"⟩ yX4_freeTogether ∈ wsL_law0 := List.mem_of_getElem? (i := 748) (by decide +kernel)
theorem tw_753 : Cond.methodLink RX8 170 ⟨"Tessera$Store", "placeOf", "(I)I"⟩ ∈ wsL_law0 := List.mem_of_getElem? (i := 753) (by decide +kernel)
theorem tw_754 : Cond.sameMethod "Tessera$Store" "Tessera$Store" "placeOf" "(I)I" ∈ wsL_law0 := List.mem_of_getElem? (i := 754) (by decide +kernel)
theorem tw_755 : Cond.selects RX0 ⟨"Tessera$Store", "placeOf", "(I)I"⟩ yX7_placeOf ∈ wsL_law0 := List.mem_of_getElem? (i := 755) (by decide +kernel)
theorem tw_756 : Cond.selects RX1 ⟨"Tessera$Store", "placeOf", "(I)I"⟩ yX7_placeOf ∈ wsL_law0 := List.mem_of_getElem? (i := 756) (by decide +kernel)
theorem tw_757 : Cond.selects RX3 ⟨"Tessera$Store", "placeOf", "(I)I"⟩ yX7_placeOf ∈ wsL_law0 := List.mem_of_getElem? (i := 757) (by decide +kernel)
theorem tw_758 : Cond.selects RX4 ⟨"Tessera$Store", "placeOf", "(I)I"⟩ yX7_placeOf ∈ wsL_law0 := List.mem_of_getElem? (i := 758) (by decide +kernel)
theorem tw_760 : Cond.instanceMethod yX8_kept ∈ wsL_law0 := List.mem_of_getElem? (i := 760) (by decide +kernel)
theorem tw_761 : Cond.selects RX8 yX8_kept yX8_kept ∈ wsL_law0 := List.mem_of_getElem? (i := 761) (by decide +kernel)
theorem tw_762 : Cond.code yX8_kept cX8_kept 3 (some .int) ∈ wsL_law0 := List.mem_of_getElem? (i := 762) (by decide +kernel)
theorem tw_763 : Cond.methodLink RX8 194 yX4_ageOf ∈ wsL_law0 := List.mem_of_getElem? (i := 763) (by decide +kernel)
theorem tw_764 : Cond.instanceMethod yX4_ageOf ∈ wsL_law0 := List.mem_of_getElem? (i := 764) (by decide +kernel)
theorem tw_765 : Cond.selects RX4 yX4_ageOf yX4_ageOf ∈ wsL_law0 := List.mem_of_getElem? (i := 765) (by decide +kernel)
theorem tw_766 : Cond.code yX4_ageOf cX4_ageOf 2 (some .int) ∈ wsL_law0 := List.mem_of_getElem? (i := 766) (by decide +kernel)
theorem tw_767 : Cond.methodLink RX4 130 ⟨"Tessera$Nursery", "has", "(I)Z"⟩ ∈ wsL_law0 := List.mem_of_getElem? (i := 767) (by decide +kernel)
theorem tw_768 : Cond.sameMethod "Tessera$Nursery" "Tessera$Store" "has" "(I)Z" ∈ wsL_law0 := List.mem_of_getElem? (i := 768) (by decide +kernel)
theorem tw_769 : Cond.selects RX4 ⟨"Tessera$Nursery", "has", "(I)Z"⟩ yX7_has ∈ wsL_law0 := List.mem_of_getElem? (i := 769) (by decide +kernel)
theorem tw_770 : Cond.methodLink RX8 197 ⟨"Tessera$Nursery", "has", "(I)Z"⟩ ∈ wsL_law0 := List.mem_of_getElem? (i := 770) (by decide +kernel)
theorem tw_771 : Cond.methodLink RX8 200 yX4_isRemembered ∈ wsL_law0 := List.mem_of_getElem? (i := 771) (by decide +kernel)
theorem tw_772 : Cond.instanceMethod yX4_isRemembered ∈ wsL_law0 := List.mem_of_getElem? (i := 772) (by decide +kernel)
theorem tw_773 : Cond.selects RX4 yX4_isRemembered yX4_isRemembered ∈ wsL_law0 := List.mem_of_getElem? (i := 773) (by decide +kernel)
theorem tw_774 : Cond.code yX4_isRemembered cX4_isRemembered 3 (some .boolean) ∈ wsL_law0 := List.mem_of_getElem? (i := 774) (by decide +kernel)
theorem tw_775 : Cond.methodLink RX8 203 yX3_colourOf ∈ wsL_law0 := List.mem_of_getElem? (i := 775) (by decide +kernel)
theorem tw_776 : Cond.methodLink RX8 206 yX1_countOf ∈ wsL_law0 := List.mem_of_getElem? (i := 776) (by decide +kernel)
theorem tw_777 : Cond.instanceMethod yX1_countOf ∈ wsL_law0 := List.mem_of_getElem? (i := 777) (by decide +kernel)
theorem tw_778 : Cond.selects RX1 yX1_countOf yX1_countOf ∈ wsL_law0 := List.mem_of_getElem? (i := 778) (by decide +kernel)
theorem tw_779 : Cond.code yX1_countOf cX1_countOf 2 (some .int) ∈ wsL_law0 := List.mem_of_getElem? (i := 779) (by decide +kernel)
theorem tw_780 : Cond.methodLink RX8 209 ⟨"Tessera$Counting", "has", "(I)Z"⟩ ∈ wsL_law0 := List.mem_of_getElem? (i := 780) (by decide +kernel)
theorem tw_781 : Cond.methodLink RX8 210 yX1_isSuspect ∈ wsL_law0 := List.mem_of_getElem? (i := 781) (by decide +kernel)
theorem tw_786 : Cond.constantLong RX8 234 (58088) ∈ wsL_law0 := List.mem_of_getElem? (i := 786) (by decide +kernel)
theorem tw_787 : Cond.methodLink RX8 236 yX8_mixed ∈ wsL_law0 := List.mem_of_getElem? (i := 787) (by decide +kernel)
theorem tw_788 : Cond.static yX8_mixed ∈ wsL_law0 := List.mem_of_getElem? (i := 788) (by decide +kernel)
theorem tw_789 : Cond.code yX8_mixed cX8_mixed 3 (some .long) ∈ wsL_law0 := List.mem_of_getElem? (i := 789) (by decide +kernel)
theorem tw_790 : Cond.constantLong RX8 264 (31) ∈ wsL_law0 := List.mem_of_getElem? (i := 790) (by decide +kernel)
theorem tw_791 : Cond.methodLink RX8 240 yX8_mixedThing ∈ wsL_law0 := List.mem_of_getElem? (i := 791) (by decide +kernel)
theorem tw_792 : Cond.instanceMethod yX8_mixedThing ∈ wsL_law0 := List.mem_of_getElem? (i := 792) (by decide +kernel)
theorem tw_793 : Cond.selects RX8 yX8_mixedThing yX8_mixedThing ∈ wsL_law0 := List.mem_of_getElem? (i := 793) (by decide +kernel)
theorem tw_794 : Cond.code yX8_mixedThing cX8_mixedThing 7 (some .long) ∈ wsL_law0 := List.mem_of_getElem? (i := 794) (by decide +kernel)
theorem tw_795 : Cond.methodLink RX8 258 yX8_ofThing ∈ wsL_law0 := List.mem_of_getElem? (i := 795) (by decide +kernel)
theorem tw_796 : Cond.methodLink RX8 261 yX8_kept ∈ wsL_law0 := List.mem_of_getElem? (i := 796) (by decide +kernel)
theorem tw_797 : Cond.methodLink RX8 243 yX8_told ∈ wsL_law0 := List.mem_of_getElem? (i := 797) (by decide +kernel)
theorem tw_798 : Cond.methodLink RX8 246 yX8_wouldGo ∈ wsL_law0 := List.mem_of_getElem? (i := 798) (by decide +kernel)
theorem tw_799 : Cond.instanceMethod yX8_wouldGo ∈ wsL_law0 := List.mem_of_getElem? (i := 799) (by decide +kernel)
theorem tw_800 : Cond.selects RX8 yX8_wouldGo yX8_wouldGo ∈ wsL_law0 := List.mem_of_getElem? (i := 800) (by decide +kernel)
theorem tw_801 : Cond.code yX8_wouldGo cX8_wouldGo 3 (some .int) ∈ wsL_law0 := List.mem_of_getElem? (i := 801) (by decide +kernel)
theorem tw_802 : Cond.methodLink RX8 225 ⟨"Tessera$Store", "countToGo", "()I"⟩ ∈ wsL_law0 := List.mem_of_getElem? (i := 802) (by decide +kernel)
theorem tw_803 : Cond.sameMethod "Tessera$Store" "Tessera$Store" "countToGo" "()I" ∈ wsL_law0 := List.mem_of_getElem? (i := 803) (by decide +kernel)
theorem tw_804 : Cond.selects RX0 ⟨"Tessera$Store", "countToGo", "()I"⟩ yX0_countToGo ∈ wsL_law0 := List.mem_of_getElem? (i := 804) (by decide +kernel)
theorem tw_805 : Cond.instanceMethod yX0_countToGo ∈ wsL_law0 := List.mem_of_getElem? (i := 805) (by decide +kernel)
theorem tw_806 : Cond.code yX0_countToGo cX0_countToGo 1 (some .int) ∈ wsL_law0 := List.mem_of_getElem? (i := 806) (by decide +kernel)
theorem tw_807 : Cond.methodLink RX0 74 ⟨"Tessera$Copying", "countUnreached", "()I"⟩ ∈ wsL_law0 := List.mem_of_getElem? (i := 807) (by decide +kernel)
theorem tw_808 : Cond.sameMethod "Tessera$Copying" "Tessera$Store" "countUnreached" "()I" ∈ wsL_law0 := List.mem_of_getElem? (i := 808) (by decide +kernel)
theorem tw_809 : Cond.selects RX0 ⟨"Tessera$Copying", "countUnreached", "()I"⟩ yX7_countUnreached ∈ wsL_law0 := List.mem_of_getElem? (i := 809) (by decide +kernel)
theorem tw_810 : Cond.selects RX1 ⟨"Tessera$Store", "countToGo", "()I"⟩ yX1_countToGo ∈ wsL_law0 := List.mem_of_getElem? (i := 810) (by decide +kernel)
theorem tw_811 : Cond.instanceMethod yX1_countToGo ∈ wsL_law0 := List.mem_of_getElem? (i := 811) (by decide +kernel)
theorem tw_812 : Cond.code yX1_countToGo cX1_countToGo 1 (some .int) ∈ wsL_law0 := List.mem_of_getElem? (i := 812) (by decide +kernel)
theorem tw_813 : Cond.selects RX3 ⟨"Tessera$Store", "countToGo", "()I"⟩ yX3_countToGo ∈ wsL_law0 := List.mem_of_getElem? (i := 813) (by decide +kernel)
theorem tw_814 : Cond.instanceMethod yX3_countToGo ∈ wsL_law0 := List.mem_of_getElem? (i := 814) (by decide +kernel)
theorem tw_815 : Cond.code yX3_countToGo cX3_countToGo 3 (some .int) ∈ wsL_law0 := List.mem_of_getElem? (i := 815) (by decide +kernel)
theorem tw_816 : Cond.methodLink RX3 81 yX3_foresee ∈ wsL_law0 := List.mem_of_getElem? (i := 816) (by decide +kernel)
theorem tw_817 : Cond.instanceMethod yX3_foresee ∈ wsL_law0 := List.mem_of_getElem? (i := 817) (by decide +kernel)
theorem tw_818 : Cond.selects RX3 yX3_foresee yX3_foresee ∈ wsL_law0 := List.mem_of_getElem? (i := 818) (by decide +kernel)
theorem tw_819 : Cond.code yX3_foresee cX3_foresee 4 none ∈ wsL_law0 := List.mem_of_getElem? (i := 819) (by decide +kernel)
theorem tw_820 : Cond.methodLink RX3 140 yX3_foreseeIfWhite ∈ wsL_law0 := List.mem_of_getElem? (i := 820) (by decide +kernel)
theorem tw_821 : Cond.instanceMethod yX3_foreseeIfWhite ∈ wsL_law0 := List.mem_of_getElem? (i := 821) (by decide +kernel)
theorem tw_822 : Cond.selects RX3 yX3_foreseeIfWhite yX3_foreseeIfWhite ∈ wsL_law0 := List.mem_of_getElem? (i := 822) (by decide +kernel)
theorem tw_823 : Cond.code yX3_foreseeIfWhite cX3_foreseeIfWhite 2 none ∈ wsL_law0 := List.mem_of_getElem? (i := 823) (by decide +kernel)
theorem tw_824 : Cond.methodLink RX3 93 yX5_holds ∈ wsL_law0 := List.mem_of_getElem? (i := 824) (by decide +kernel)
theorem tw_825 : Cond.selects RX4 ⟨"Tessera$Store", "countToGo", "()I"⟩ yX4_countToGo ∈ wsL_law0 := List.mem_of_getElem? (i := 825) (by decide +kernel)
theorem tw_826 : Cond.instanceMethod yX4_countToGo ∈ wsL_law0 := List.mem_of_getElem? (i := 826) (by decide +kernel)
theorem tw_827 : Cond.code yX4_countToGo cX4_countToGo 1 (some .int) ∈ wsL_law0 := List.mem_of_getElem? (i := 827) (by decide +kernel)
theorem tw_828 : Cond.methodLink RX4 124 ⟨"Tessera$Nursery", "countUnreached", "()I"⟩ ∈ wsL_law0 := List.mem_of_getElem? (i := 828) (by decide +kernel)
theorem tw_829 : Cond.sameMethod "Tessera$Nursery" "Tessera$Store" "countUnreached" "()I" ∈ wsL_law0 := List.mem_of_getElem? (i := 829) (by decide +kernel)
theorem tw_830 : Cond.selects RX4 ⟨"Tessera$Nursery", "countUnreached", "()I"⟩ yX7_countUnreached ∈ wsL_law0 := List.mem_of_getElem? (i := 830) (by decide +kernel)
theorem tw_831 : Cond.methodLink RX8 249 yX8_wouldWork ∈ wsL_law0 := List.mem_of_getElem? (i := 831) (by decide +kernel)
theorem tw_832 : Cond.instanceMethod yX8_wouldWork ∈ wsL_law0 := List.mem_of_getElem? (i := 832) (by decide +kernel)
theorem tw_833 : Cond.selects RX8 yX8_wouldWork yX8_wouldWork ∈ wsL_law0 := List.mem_of_getElem? (i := 833) (by decide +kernel)
theorem tw_834 : Cond.code yX8_wouldWork cX8_wouldWork 3 (some .int) ∈ wsL_law0 := List.mem_of_getElem? (i := 834) (by decide +kernel)
theorem tw_835 : Cond.methodLink RX8 228 ⟨"Tessera$Store", "workToDo", "()I"⟩ ∈ wsL_law0 := List.mem_of_getElem? (i := 835) (by decide +kernel)
theorem tw_836 : Cond.sameMethod "Tessera$Store" "Tessera$Store" "workToDo" "()I" ∈ wsL_law0 := List.mem_of_getElem? (i := 836) (by decide +kernel)
theorem tw_837 : Cond.selects RX0 ⟨"Tessera$Store", "workToDo", "()I"⟩ yX0_workToDo ∈ wsL_law0 := List.mem_of_getElem? (i := 837) (by decide +kernel)
theorem tw_838 : Cond.instanceMethod yX0_workToDo ∈ wsL_law0 := List.mem_of_getElem? (i := 838) (by decide +kernel)
theorem tw_839 : Cond.code yX0_workToDo cX0_workToDo 1 (some .int) ∈ wsL_law0 := List.mem_of_getElem? (i := 839) (by decide +kernel)
theorem tw_840 : Cond.methodLink RX0 77 ⟨"Tessera$Copying", "wordsReached", "()I"⟩ ∈ wsL_law0 := List.mem_of_getElem? (i := 840) (by decide +kernel)
theorem tw_841 : Cond.sameMethod "Tessera$Copying" "Tessera$Store" "wordsReached" "()I" ∈ wsL_law0 := List.mem_of_getElem? (i := 841) (by decide +kernel)
theorem tw_842 : Cond.selects RX0 ⟨"Tessera$Copying", "wordsReached", "()I"⟩ yX7_wordsReached ∈ wsL_law0 := List.mem_of_getElem? (i := 842) (by decide +kernel)
theorem tw_843 : Cond.selects RX1 ⟨"Tessera$Store", "workToDo", "()I"⟩ yX1_workToDo ∈ wsL_law0 := List.mem_of_getElem? (i := 843) (by decide +kernel)
theorem tw_844 : Cond.instanceMethod yX1_workToDo ∈ wsL_law0 := List.mem_of_getElem? (i := 844) (by decide +kernel)
theorem tw_845 : Cond.code yX1_workToDo cX1_workToDo 1 (some .int) ∈ wsL_law0 := List.mem_of_getElem? (i := 845) (by decide +kernel)
theorem tw_846 : Cond.selects RX3 ⟨"Tessera$Store", "workToDo", "()I"⟩ yX3_workToDo ∈ wsL_law0 := List.mem_of_getElem? (i := 846) (by decide +kernel)
theorem tw_847 : Cond.instanceMethod yX3_workToDo ∈ wsL_law0 := List.mem_of_getElem? (i := 847) (by decide +kernel)
theorem tw_848 : Cond.code yX3_workToDo cX3_workToDo 3 (some .int) ∈ wsL_law0 := List.mem_of_getElem? (i := 848) (by decide +kernel)
theorem tw_849 : Cond.selects RX4 ⟨"Tessera$Store", "workToDo", "()I"⟩ yX4_workToDo ∈ wsL_law0 := List.mem_of_getElem? (i := 849) (by decide +kernel)
theorem tw_850 : Cond.instanceMethod yX4_workToDo ∈ wsL_law0 := List.mem_of_getElem? (i := 850) (by decide +kernel)
theorem tw_851 : Cond.code yX4_workToDo cX4_workToDo 1 (some .int) ∈ wsL_law0 := List.mem_of_getElem? (i := 851) (by decide +kernel)
theorem tw_852 : Cond.methodLink RX8 252 yX8_more ∈ wsL_law0 := List.mem_of_getElem? (i := 852) (by decide +kernel)
theorem tw_853 : Cond.instanceMethod yX8_more ∈ wsL_law0 := List.mem_of_getElem? (i := 853) (by decide +kernel)
theorem tw_854 : Cond.selects RX8 yX8_more yX8_more ∈ wsL_law0 := List.mem_of_getElem? (i := 854) (by decide +kernel)
theorem tw_855 : Cond.code yX8_more cX8_more 2 (some .int) ∈ wsL_law0 := List.mem_of_getElem? (i := 855) (by decide +kernel)
theorem tw_856 : Cond.fieldLink RX8 213 "Tessera$Nursery" "smallOnes" "I" ∈ wsL_law0 := List.mem_of_getElem? (i := 856) (by decide +kernel)
theorem tw_857 : Cond.fieldLink RX8 216 "Tessera$Nursery" "wordsGrownOld" "I" ∈ wsL_law0 := List.mem_of_getElem? (i := 857) (by decide +kernel)
theorem tw_858 : Cond.fieldLink RX8 219 "Tessera$Marking" "marks" "Z" ∈ wsL_law0 := List.mem_of_getElem? (i := 858) (by decide +kernel)
theorem tw_859 : Cond.fieldLink RX8 222 "Tessera$Counting" "goneByRings" "I" ∈ wsL_law0 := List.mem_of_getElem? (i := 859) (by decide +kernel)
theorem tw_860 : Cond.methodLink RX8 255 yX8_wouldLose ∈ wsL_law0 := List.mem_of_getElem? (i := 860) (by decide +kernel)
theorem tw_861 : Cond.instanceMethod yX8_wouldLose ∈ wsL_law0 := List.mem_of_getElem? (i := 861) (by decide +kernel)
theorem tw_862 : Cond.selects RX8 yX8_wouldLose yX8_wouldLose ∈ wsL_law0 := List.mem_of_getElem? (i := 862) (by decide +kernel)
theorem tw_863 : Cond.code yX8_wouldLose cX8_wouldLose 2 (some .int) ∈ wsL_law0 := List.mem_of_getElem? (i := 863) (by decide +kernel)
theorem tw_864 : Cond.methodLink RX8 231 yX2_countLostWithout ∈ wsL_law0 := List.mem_of_getElem? (i := 864) (by decide +kernel)
theorem tw_865 : Cond.instanceMethod yX2_countLostWithout ∈ wsL_law0 := List.mem_of_getElem? (i := 865) (by decide +kernel)
theorem tw_866 : Cond.selects RX2 yX2_countLostWithout yX2_countLostWithout ∈ wsL_law0 := List.mem_of_getElem? (i := 866) (by decide +kernel)
theorem tw_867 : Cond.code yX2_countLostWithout cX2_countLostWithout 2 (some .int) ∈ wsL_law0 := List.mem_of_getElem? (i := 867) (by decide +kernel)
theorem tw_874 : Cond.methodLink RX8 151 ⟨"Tessera$Store", "cleanUp", "()I"⟩ ∈ wsL_law0 := List.mem_of_getElem? (i := 874) (by decide +kernel)
theorem tw_875 : Cond.sameMethod "Tessera$Store" "Tessera$Store" "cleanUp" "()I" ∈ wsL_law0 := List.mem_of_getElem? (i := 875) (by decide +kernel)
theorem tw_876 : Cond.selects RX0 ⟨"Tessera$Store", "cleanUp", "()I"⟩ yX7_cleanUp ∈ wsL_law0 := List.mem_of_getElem? (i := 876) (by decide +kernel)
theorem tw_877 : Cond.instanceMethod yX7_cleanUp ∈ wsL_law0 := List.mem_of_getElem? (i := 877) (by decide +kernel)
theorem tw_878 : Cond.code yX7_cleanUp cX7_cleanUp 1 (some .int) ∈ wsL_law0 := List.mem_of_getElem? (i := 878) (by decide +kernel)
theorem tw_879 : Cond.methodLink RX7 52 ⟨"Tessera$Store", "collectNow", "()I"⟩ ∈ wsL_law0 := List.mem_of_getElem? (i := 879) (by decide +kernel)
theorem tw_880 : Cond.sameMethod "Tessera$Store" "Tessera$Store" "collectNow" "()I" ∈ wsL_law0 := List.mem_of_getElem? (i := 880) (by decide +kernel)
theorem tw_881 : Cond.selects RX0 ⟨"Tessera$Store", "collectNow", "()I"⟩ yX0_collectNow ∈ wsL_law0 := List.mem_of_getElem? (i := 881) (by decide +kernel)
theorem tw_882 : Cond.selects RX1 ⟨"Tessera$Store", "collectNow", "()I"⟩ yX1_collectNow ∈ wsL_law0 := List.mem_of_getElem? (i := 882) (by decide +kernel)
theorem tw_883 : Cond.selects RX3 ⟨"Tessera$Store", "collectNow", "()I"⟩ yX3_collectNow ∈ wsL_law0 := List.mem_of_getElem? (i := 883) (by decide +kernel)
theorem tw_884 : Cond.selects RX4 ⟨"Tessera$Store", "collectNow", "()I"⟩ yX4_collectNow ∈ wsL_law0 := List.mem_of_getElem? (i := 884) (by decide +kernel)
theorem tw_885 : Cond.selects RX1 ⟨"Tessera$Store", "cleanUp", "()I"⟩ yX7_cleanUp ∈ wsL_law0 := List.mem_of_getElem? (i := 885) (by decide +kernel)
theorem tw_886 : Cond.selects RX3 ⟨"Tessera$Store", "cleanUp", "()I"⟩ yX7_cleanUp ∈ wsL_law0 := List.mem_of_getElem? (i := 886) (by decide +kernel)
theorem tw_887 : Cond.selects RX4 ⟨"Tessera$Store", "cleanUp", "()I"⟩ yX7_cleanUp ∈ wsL_law0 := List.mem_of_getElem? (i := 887) (by decide +kernel)
end
section
/-! THE STATE: every cell of the class is made in its constructor; S k j is what slot j of cell k holds -/
abbrev St : Type := Nat → Nat → Int32
def uR (S : St) (k : Nat) (f : Nat → Int32) : St := fun j => if j = k then f else S j
def u2 (S : St) (k j : Nat) (v : Int32) : St := uR S k (upd (S k) j v)
def stF (ad : Nat → Nat) : Nat → Option Nat := va_up (va_up (va_up (va_up (fun _ => none) 0 (some (ad 12))) 1 (some (ad 18))) 2 (some (ad 31))) 3 (some (ad 42))
def cL (ad : Nat → Nat) (ca : Nat → ClassId) : List ((Nat → Int32) → va_E) := [
  fun row => .inr (6, [.ref (ad 1), .ref (ad 18), .ref (ad 31), .ref (ad 42), .ref (ad 58), .int (row 5)]),
  fun row => .inr (2, [.ref (ad 2), .ref (ad 3), .ref (ad 4), .ref (ad 5), .ref (ad 6), .ref (ad 9), .int (row 6)]),
  fun row => .inl (ca 2, 80, .inl row),
  fun row => .inl (ca 3, 240, .inl row),
  fun row => .inl (ca 4, 6, .inl row),
  fun row => .inl (ca 5, 80, .inl row),
  fun row => .inr (5, [.ref (ad 7), .ref (ad 8), .int (row 2)]),
  fun row => .inl (ca 7, 80, .inl row),
  fun row => .inl (ca 8, 80, .inl row),
  fun row => .inr (5, [.ref (ad 10), .ref (ad 11), .int (row 2)]),
  fun row => .inl (ca 10, 80, .inl row),
  fun row => .inl (ca 11, 80, .inl row),
  fun row => .inr (0, [.ref (ad 1), .int (row 1), .int (row 2), .int (row 3), .int (row 4), .int (row 5), .int (row 6), .ref (ad 13), .ref (ad 14), .ref (ad 15), .int (row 10), .int (row 11)]),
  fun row => .inl (ca 13, 80, .inl row),
  fun row => .inl (ca 14, 80, .inl row),
  fun row => .inr (5, [.ref (ad 16), .ref (ad 17), .int (row 2)]),
  fun row => .inl (ca 16, 80, .inl row),
  fun row => .inl (ca 17, 80, .inl row),
  fun row => .inr (4, [.ref (ad 1), .int (row 1), .int (row 2), .int (row 3), .int (row 4), .int (row 5), .int (row 6), .ref (ad 19), .ref (ad 20), .int (row 9), .int (row 10), .ref (ad 21), .ref (ad 24), .ref (ad 27), .ref (ad 30), .int (row 15), .int (row 16)]),
  fun row => .inl (ca 19, 80, .inl row),
  fun row => .inl (ca 20, 80, .inl row),
  fun row => .inr (5, [.ref (ad 22), .ref (ad 23), .int (row 2)]),
  fun row => .inl (ca 22, 80, .inl row),
  fun row => .inl (ca 23, 80, .inl row),
  fun row => .inr (5, [.ref (ad 25), .ref (ad 26), .int (row 2)]),
  fun row => .inl (ca 25, 80, .inl row),
  fun row => .inl (ca 26, 80, .inl row),
  fun row => .inr (5, [.ref (ad 28), .ref (ad 29), .int (row 2)]),
  fun row => .inl (ca 28, 80, .inl row),
  fun row => .inl (ca 29, 80, .inl row),
  fun row => .inl (ca 30, 80, .inl row),
  fun row => .inr (3, [.ref (ad 34), .ref (ad 1), .int (row 2), .int (row 3), .int (row 4), .int (row 5), .int (row 6), .int (row 7), .ref (ad 32), .ref (ad 33), .int (row 10), .ref (ad 35), .ref (ad 36), .ref (ad 39), .int (row 14)]),
  fun row => .inl (ca 32, 80, .inl row),
  fun row => .inl (ca 33, 80, .inl row),
  fun row => .inl (ca 34, 160, .inl row),
  fun row => .inl (ca 35, 80, .inl row),
  fun row => .inr (5, [.ref (ad 37), .ref (ad 38), .int (row 2)]),
  fun row => .inl (ca 37, 80, .inl row),
  fun row => .inl (ca 38, 80, .inl row),
  fun row => .inr (5, [.ref (ad 40), .ref (ad 41), .int (row 2)]),
  fun row => .inl (ca 40, 80, .inl row),
  fun row => .inl (ca 41, 80, .inl row),
  fun row => .inr (1, [.ref (ad 45), .ref (ad 1), .int (row 2), .int (row 3), .int (row 4), .int (row 5), .int (row 6), .int (row 7), .ref (ad 43), .ref (ad 44), .int (row 10), .ref (ad 46), .ref (ad 47), .ref (ad 48), .ref (ad 49), .ref (ad 52), .ref (ad 55)]),
  fun row => .inl (ca 43, 80, .inl row),
  fun row => .inl (ca 44, 80, .inl row),
  fun row => .inl (ca 45, 160, .inl row),
  fun row => .inl (ca 46, 80, .inl row),
  fun row => .inl (ca 47, 80, .inl row),
  fun row => .inl (ca 48, 80, .inl row),
  fun row => .inr (5, [.ref (ad 50), .ref (ad 51), .int (row 2)]),
  fun row => .inl (ca 50, 80, .inl row),
  fun row => .inl (ca 51, 80, .inl row),
  fun row => .inr (5, [.ref (ad 53), .ref (ad 54), .int (row 2)]),
  fun row => .inl (ca 53, 80, .inl row),
  fun row => .inl (ca 54, 80, .inl row),
  fun row => .inr (5, [.ref (ad 56), .ref (ad 57), .int (row 2)]),
  fun row => .inl (ca 56, 80, .inl row),
  fun row => .inl (ca 57, 80, .inl row),
  fun row => .inl (ca 58, 4, .inr (.inr (.inr (.inr (stF ad)))))]
def cE (ad : Nat → Nat) (ca : Nat → ClassId) (k : Nat) (row : Nat → Int32) : va_E := ((cL ad ca)[k]?.getD (fun _ => .inr (0, []))) row
def wl (ad : Nat → Nat) (ca : Nat → ClassId) (S : St) : va_W := (List.range 59).map (fun k => (ad k, cE ad ca k (S k)))
theorem wl_len {ad : Nat → Nat} {ca : Nat → ClassId} {S : St} : (wl ad ca S).length = 59 := by simp [wl]
theorem wl_at {ad : Nat → Nat} {ca : Nat → ClassId} {S : St} {k : Nat} (h : k < 59) : (wl ad ca S)[k]? = some (ad k, cE ad ca k (S k)) := by simp [wl, h]
theorem wl_of {ad : Nat → Nat} {ca : Nat → ClassId} {S : St} {k : Nat} {q : Nat × va_E} (h : (wl ad ca S)[k]? = some q) : k < 59 ∧ q = (ad k, cE ad ca k (S k)) := by
  have hk : k < 59 := by
    have h1 := (List.getElem?_eq_some_iff.mp h).1
    rwa [wl_len] at h1
  rw [wl_at hk] at h
  exact ⟨hk, (Option.some.inj h).symm⟩
theorem wl_set {ad : Nat → Nat} {ca : Nat → ClassId} {S : St} {k : Nat} {f : Nat → Int32} {e : va_E} (he : cE ad ca k f = e) : (wl ad ca S).set k (ad k, e) = wl ad ca (uR S k f) := by
  subst he
  apply List.ext_getElem?
  intro i
  by_cases hi : i < 59
  · by_cases hk : k = i
    · subst hk
      rw [List.getElem?_set_self (by rw [wl_len]; exact hi), wl_at hi]
      simp [uR]
    · rw [List.getElem?_set_ne hk, wl_at hi, wl_at hi]
      simp [uR, show ¬ i = k from fun h => hk h.symm]
  · rw [List.getElem?_eq_none (by rw [List.length_set, wl_len]; omega), List.getElem?_eq_none (by rw [wl_len]; omega)]
def TYS (ca : Nat → ClassId) : List (ClassId × FieldType) := [(ca 2, .int), (ca 3, .int), (ca 4, .int), (ca 5, .int), (ca 7, .int), (ca 8, .boolean), (ca 10, .int), (ca 11, .boolean), (ca 13, .boolean), (ca 14, .int), (ca 16, .int), (ca 17, .boolean), (ca 19, .boolean), (ca 20, .int), (ca 22, .int), (ca 23, .boolean), (ca 25, .int), (ca 26, .boolean), (ca 28, .int), (ca 29, .boolean), (ca 30, .boolean), (ca 32, .boolean), (ca 33, .int), (ca 34, .boolean), (ca 35, .int), (ca 37, .int), (ca 38, .boolean), (ca 40, .int), (ca 41, .boolean), (ca 43, .boolean), (ca 44, .int), (ca 45, .boolean), (ca 46, .int), (ca 47, .boolean), (ca 48, .int), (ca 50, .int), (ca 51, .boolean), (ca 53, .int), (ca 54, .boolean), (ca 56, .int), (ca 57, .boolean), (ca 58, .object "Tessera$Store")]
theorem ce_0 (ad : Nat → Nat) (ca : Nat → ClassId) (row : Nat → Int32) : cE ad ca 0 row = .inr (6, [.ref (ad 1), .ref (ad 18), .ref (ad 31), .ref (ad 42), .ref (ad 58), .int (row 5)]) := rfl
theorem pe_0_5 (ad : Nat → Nat) (ca : Nat → ClassId) (row : Nat → Int32) (x : Int32) : cE ad ca 0 (upd row 5 x) = .inr (6, [.ref (ad 1), .ref (ad 18), .ref (ad 31), .ref (ad 42), .ref (ad 58), .int x]) := rfl
theorem ce_1 (ad : Nat → Nat) (ca : Nat → ClassId) (row : Nat → Int32) : cE ad ca 1 row = .inr (2, [.ref (ad 2), .ref (ad 3), .ref (ad 4), .ref (ad 5), .ref (ad 6), .ref (ad 9), .int (row 6)]) := rfl
theorem pe_1_6 (ad : Nat → Nat) (ca : Nat → ClassId) (row : Nat → Int32) (x : Int32) : cE ad ca 1 (upd row 6 x) = .inr (2, [.ref (ad 2), .ref (ad 3), .ref (ad 4), .ref (ad 5), .ref (ad 6), .ref (ad 9), .int x]) := rfl
theorem ce_2 (ad : Nat → Nat) (ca : Nat → ClassId) (row : Nat → Int32) : cE ad ca 2 row = .inl (ca 2, 80, .inl row) := rfl
theorem ce_3 (ad : Nat → Nat) (ca : Nat → ClassId) (row : Nat → Int32) : cE ad ca 3 row = .inl (ca 3, 240, .inl row) := rfl
theorem ce_4 (ad : Nat → Nat) (ca : Nat → ClassId) (row : Nat → Int32) : cE ad ca 4 row = .inl (ca 4, 6, .inl row) := rfl
theorem ce_5 (ad : Nat → Nat) (ca : Nat → ClassId) (row : Nat → Int32) : cE ad ca 5 row = .inl (ca 5, 80, .inl row) := rfl
theorem ce_6 (ad : Nat → Nat) (ca : Nat → ClassId) (row : Nat → Int32) : cE ad ca 6 row = .inr (5, [.ref (ad 7), .ref (ad 8), .int (row 2)]) := rfl
theorem pe_6_2 (ad : Nat → Nat) (ca : Nat → ClassId) (row : Nat → Int32) (x : Int32) : cE ad ca 6 (upd row 2 x) = .inr (5, [.ref (ad 7), .ref (ad 8), .int x]) := rfl
theorem ce_7 (ad : Nat → Nat) (ca : Nat → ClassId) (row : Nat → Int32) : cE ad ca 7 row = .inl (ca 7, 80, .inl row) := rfl
theorem ce_8 (ad : Nat → Nat) (ca : Nat → ClassId) (row : Nat → Int32) : cE ad ca 8 row = .inl (ca 8, 80, .inl row) := rfl
theorem ce_9 (ad : Nat → Nat) (ca : Nat → ClassId) (row : Nat → Int32) : cE ad ca 9 row = .inr (5, [.ref (ad 10), .ref (ad 11), .int (row 2)]) := rfl
theorem pe_9_2 (ad : Nat → Nat) (ca : Nat → ClassId) (row : Nat → Int32) (x : Int32) : cE ad ca 9 (upd row 2 x) = .inr (5, [.ref (ad 10), .ref (ad 11), .int x]) := rfl
theorem ce_10 (ad : Nat → Nat) (ca : Nat → ClassId) (row : Nat → Int32) : cE ad ca 10 row = .inl (ca 10, 80, .inl row) := rfl
theorem ce_11 (ad : Nat → Nat) (ca : Nat → ClassId) (row : Nat → Int32) : cE ad ca 11 row = .inl (ca 11, 80, .inl row) := rfl
theorem ce_12 (ad : Nat → Nat) (ca : Nat → ClassId) (row : Nat → Int32) : cE ad ca 12 row = .inr (0, [.ref (ad 1), .int (row 1), .int (row 2), .int (row 3), .int (row 4), .int (row 5), .int (row 6), .ref (ad 13), .ref (ad 14), .ref (ad 15), .int (row 10), .int (row 11)]) := rfl
theorem pe_12_1 (ad : Nat → Nat) (ca : Nat → ClassId) (row : Nat → Int32) (x : Int32) : cE ad ca 12 (upd row 1 x) = .inr (0, [.ref (ad 1), .int x, .int (row 2), .int (row 3), .int (row 4), .int (row 5), .int (row 6), .ref (ad 13), .ref (ad 14), .ref (ad 15), .int (row 10), .int (row 11)]) := rfl
theorem pe_12_2 (ad : Nat → Nat) (ca : Nat → ClassId) (row : Nat → Int32) (x : Int32) : cE ad ca 12 (upd row 2 x) = .inr (0, [.ref (ad 1), .int (row 1), .int x, .int (row 3), .int (row 4), .int (row 5), .int (row 6), .ref (ad 13), .ref (ad 14), .ref (ad 15), .int (row 10), .int (row 11)]) := rfl
theorem pe_12_3 (ad : Nat → Nat) (ca : Nat → ClassId) (row : Nat → Int32) (x : Int32) : cE ad ca 12 (upd row 3 x) = .inr (0, [.ref (ad 1), .int (row 1), .int (row 2), .int x, .int (row 4), .int (row 5), .int (row 6), .ref (ad 13), .ref (ad 14), .ref (ad 15), .int (row 10), .int (row 11)]) := rfl
theorem pe_12_4 (ad : Nat → Nat) (ca : Nat → ClassId) (row : Nat → Int32) (x : Int32) : cE ad ca 12 (upd row 4 x) = .inr (0, [.ref (ad 1), .int (row 1), .int (row 2), .int (row 3), .int x, .int (row 5), .int (row 6), .ref (ad 13), .ref (ad 14), .ref (ad 15), .int (row 10), .int (row 11)]) := rfl
theorem pe_12_5 (ad : Nat → Nat) (ca : Nat → ClassId) (row : Nat → Int32) (x : Int32) : cE ad ca 12 (upd row 5 x) = .inr (0, [.ref (ad 1), .int (row 1), .int (row 2), .int (row 3), .int (row 4), .int x, .int (row 6), .ref (ad 13), .ref (ad 14), .ref (ad 15), .int (row 10), .int (row 11)]) := rfl
theorem pe_12_6 (ad : Nat → Nat) (ca : Nat → ClassId) (row : Nat → Int32) (x : Int32) : cE ad ca 12 (upd row 6 x) = .inr (0, [.ref (ad 1), .int (row 1), .int (row 2), .int (row 3), .int (row 4), .int (row 5), .int x, .ref (ad 13), .ref (ad 14), .ref (ad 15), .int (row 10), .int (row 11)]) := rfl
theorem pe_12_10 (ad : Nat → Nat) (ca : Nat → ClassId) (row : Nat → Int32) (x : Int32) : cE ad ca 12 (upd row 10 x) = .inr (0, [.ref (ad 1), .int (row 1), .int (row 2), .int (row 3), .int (row 4), .int (row 5), .int (row 6), .ref (ad 13), .ref (ad 14), .ref (ad 15), .int x, .int (row 11)]) := rfl
theorem pe_12_11 (ad : Nat → Nat) (ca : Nat → ClassId) (row : Nat → Int32) (x : Int32) : cE ad ca 12 (upd row 11 x) = .inr (0, [.ref (ad 1), .int (row 1), .int (row 2), .int (row 3), .int (row 4), .int (row 5), .int (row 6), .ref (ad 13), .ref (ad 14), .ref (ad 15), .int (row 10), .int x]) := rfl
theorem ce_13 (ad : Nat → Nat) (ca : Nat → ClassId) (row : Nat → Int32) : cE ad ca 13 row = .inl (ca 13, 80, .inl row) := rfl
theorem ce_14 (ad : Nat → Nat) (ca : Nat → ClassId) (row : Nat → Int32) : cE ad ca 14 row = .inl (ca 14, 80, .inl row) := rfl
theorem ce_15 (ad : Nat → Nat) (ca : Nat → ClassId) (row : Nat → Int32) : cE ad ca 15 row = .inr (5, [.ref (ad 16), .ref (ad 17), .int (row 2)]) := rfl
theorem pe_15_2 (ad : Nat → Nat) (ca : Nat → ClassId) (row : Nat → Int32) (x : Int32) : cE ad ca 15 (upd row 2 x) = .inr (5, [.ref (ad 16), .ref (ad 17), .int x]) := rfl
theorem ce_16 (ad : Nat → Nat) (ca : Nat → ClassId) (row : Nat → Int32) : cE ad ca 16 row = .inl (ca 16, 80, .inl row) := rfl
theorem ce_17 (ad : Nat → Nat) (ca : Nat → ClassId) (row : Nat → Int32) : cE ad ca 17 row = .inl (ca 17, 80, .inl row) := rfl
theorem ce_18 (ad : Nat → Nat) (ca : Nat → ClassId) (row : Nat → Int32) : cE ad ca 18 row = .inr (4, [.ref (ad 1), .int (row 1), .int (row 2), .int (row 3), .int (row 4), .int (row 5), .int (row 6), .ref (ad 19), .ref (ad 20), .int (row 9), .int (row 10), .ref (ad 21), .ref (ad 24), .ref (ad 27), .ref (ad 30), .int (row 15), .int (row 16)]) := rfl
theorem pe_18_1 (ad : Nat → Nat) (ca : Nat → ClassId) (row : Nat → Int32) (x : Int32) : cE ad ca 18 (upd row 1 x) = .inr (4, [.ref (ad 1), .int x, .int (row 2), .int (row 3), .int (row 4), .int (row 5), .int (row 6), .ref (ad 19), .ref (ad 20), .int (row 9), .int (row 10), .ref (ad 21), .ref (ad 24), .ref (ad 27), .ref (ad 30), .int (row 15), .int (row 16)]) := rfl
theorem pe_18_2 (ad : Nat → Nat) (ca : Nat → ClassId) (row : Nat → Int32) (x : Int32) : cE ad ca 18 (upd row 2 x) = .inr (4, [.ref (ad 1), .int (row 1), .int x, .int (row 3), .int (row 4), .int (row 5), .int (row 6), .ref (ad 19), .ref (ad 20), .int (row 9), .int (row 10), .ref (ad 21), .ref (ad 24), .ref (ad 27), .ref (ad 30), .int (row 15), .int (row 16)]) := rfl
theorem pe_18_3 (ad : Nat → Nat) (ca : Nat → ClassId) (row : Nat → Int32) (x : Int32) : cE ad ca 18 (upd row 3 x) = .inr (4, [.ref (ad 1), .int (row 1), .int (row 2), .int x, .int (row 4), .int (row 5), .int (row 6), .ref (ad 19), .ref (ad 20), .int (row 9), .int (row 10), .ref (ad 21), .ref (ad 24), .ref (ad 27), .ref (ad 30), .int (row 15), .int (row 16)]) := rfl
theorem pe_18_4 (ad : Nat → Nat) (ca : Nat → ClassId) (row : Nat → Int32) (x : Int32) : cE ad ca 18 (upd row 4 x) = .inr (4, [.ref (ad 1), .int (row 1), .int (row 2), .int (row 3), .int x, .int (row 5), .int (row 6), .ref (ad 19), .ref (ad 20), .int (row 9), .int (row 10), .ref (ad 21), .ref (ad 24), .ref (ad 27), .ref (ad 30), .int (row 15), .int (row 16)]) := rfl
theorem pe_18_5 (ad : Nat → Nat) (ca : Nat → ClassId) (row : Nat → Int32) (x : Int32) : cE ad ca 18 (upd row 5 x) = .inr (4, [.ref (ad 1), .int (row 1), .int (row 2), .int (row 3), .int (row 4), .int x, .int (row 6), .ref (ad 19), .ref (ad 20), .int (row 9), .int (row 10), .ref (ad 21), .ref (ad 24), .ref (ad 27), .ref (ad 30), .int (row 15), .int (row 16)]) := rfl
theorem pe_18_6 (ad : Nat → Nat) (ca : Nat → ClassId) (row : Nat → Int32) (x : Int32) : cE ad ca 18 (upd row 6 x) = .inr (4, [.ref (ad 1), .int (row 1), .int (row 2), .int (row 3), .int (row 4), .int (row 5), .int x, .ref (ad 19), .ref (ad 20), .int (row 9), .int (row 10), .ref (ad 21), .ref (ad 24), .ref (ad 27), .ref (ad 30), .int (row 15), .int (row 16)]) := rfl
theorem pe_18_9 (ad : Nat → Nat) (ca : Nat → ClassId) (row : Nat → Int32) (x : Int32) : cE ad ca 18 (upd row 9 x) = .inr (4, [.ref (ad 1), .int (row 1), .int (row 2), .int (row 3), .int (row 4), .int (row 5), .int (row 6), .ref (ad 19), .ref (ad 20), .int x, .int (row 10), .ref (ad 21), .ref (ad 24), .ref (ad 27), .ref (ad 30), .int (row 15), .int (row 16)]) := rfl
theorem pe_18_10 (ad : Nat → Nat) (ca : Nat → ClassId) (row : Nat → Int32) (x : Int32) : cE ad ca 18 (upd row 10 x) = .inr (4, [.ref (ad 1), .int (row 1), .int (row 2), .int (row 3), .int (row 4), .int (row 5), .int (row 6), .ref (ad 19), .ref (ad 20), .int (row 9), .int x, .ref (ad 21), .ref (ad 24), .ref (ad 27), .ref (ad 30), .int (row 15), .int (row 16)]) := rfl
theorem pe_18_15 (ad : Nat → Nat) (ca : Nat → ClassId) (row : Nat → Int32) (x : Int32) : cE ad ca 18 (upd row 15 x) = .inr (4, [.ref (ad 1), .int (row 1), .int (row 2), .int (row 3), .int (row 4), .int (row 5), .int (row 6), .ref (ad 19), .ref (ad 20), .int (row 9), .int (row 10), .ref (ad 21), .ref (ad 24), .ref (ad 27), .ref (ad 30), .int x, .int (row 16)]) := rfl
theorem pe_18_16 (ad : Nat → Nat) (ca : Nat → ClassId) (row : Nat → Int32) (x : Int32) : cE ad ca 18 (upd row 16 x) = .inr (4, [.ref (ad 1), .int (row 1), .int (row 2), .int (row 3), .int (row 4), .int (row 5), .int (row 6), .ref (ad 19), .ref (ad 20), .int (row 9), .int (row 10), .ref (ad 21), .ref (ad 24), .ref (ad 27), .ref (ad 30), .int (row 15), .int x]) := rfl
theorem ce_19 (ad : Nat → Nat) (ca : Nat → ClassId) (row : Nat → Int32) : cE ad ca 19 row = .inl (ca 19, 80, .inl row) := rfl
theorem ce_20 (ad : Nat → Nat) (ca : Nat → ClassId) (row : Nat → Int32) : cE ad ca 20 row = .inl (ca 20, 80, .inl row) := rfl
theorem ce_21 (ad : Nat → Nat) (ca : Nat → ClassId) (row : Nat → Int32) : cE ad ca 21 row = .inr (5, [.ref (ad 22), .ref (ad 23), .int (row 2)]) := rfl
theorem pe_21_2 (ad : Nat → Nat) (ca : Nat → ClassId) (row : Nat → Int32) (x : Int32) : cE ad ca 21 (upd row 2 x) = .inr (5, [.ref (ad 22), .ref (ad 23), .int x]) := rfl
theorem ce_22 (ad : Nat → Nat) (ca : Nat → ClassId) (row : Nat → Int32) : cE ad ca 22 row = .inl (ca 22, 80, .inl row) := rfl
theorem ce_23 (ad : Nat → Nat) (ca : Nat → ClassId) (row : Nat → Int32) : cE ad ca 23 row = .inl (ca 23, 80, .inl row) := rfl
theorem ce_24 (ad : Nat → Nat) (ca : Nat → ClassId) (row : Nat → Int32) : cE ad ca 24 row = .inr (5, [.ref (ad 25), .ref (ad 26), .int (row 2)]) := rfl
theorem pe_24_2 (ad : Nat → Nat) (ca : Nat → ClassId) (row : Nat → Int32) (x : Int32) : cE ad ca 24 (upd row 2 x) = .inr (5, [.ref (ad 25), .ref (ad 26), .int x]) := rfl
theorem ce_25 (ad : Nat → Nat) (ca : Nat → ClassId) (row : Nat → Int32) : cE ad ca 25 row = .inl (ca 25, 80, .inl row) := rfl
theorem ce_26 (ad : Nat → Nat) (ca : Nat → ClassId) (row : Nat → Int32) : cE ad ca 26 row = .inl (ca 26, 80, .inl row) := rfl
theorem ce_27 (ad : Nat → Nat) (ca : Nat → ClassId) (row : Nat → Int32) : cE ad ca 27 row = .inr (5, [.ref (ad 28), .ref (ad 29), .int (row 2)]) := rfl
theorem pe_27_2 (ad : Nat → Nat) (ca : Nat → ClassId) (row : Nat → Int32) (x : Int32) : cE ad ca 27 (upd row 2 x) = .inr (5, [.ref (ad 28), .ref (ad 29), .int x]) := rfl
theorem ce_28 (ad : Nat → Nat) (ca : Nat → ClassId) (row : Nat → Int32) : cE ad ca 28 row = .inl (ca 28, 80, .inl row) := rfl
theorem ce_29 (ad : Nat → Nat) (ca : Nat → ClassId) (row : Nat → Int32) : cE ad ca 29 row = .inl (ca 29, 80, .inl row) := rfl
theorem ce_30 (ad : Nat → Nat) (ca : Nat → ClassId) (row : Nat → Int32) : cE ad ca 30 row = .inl (ca 30, 80, .inl row) := rfl
theorem ce_31 (ad : Nat → Nat) (ca : Nat → ClassId) (row : Nat → Int32) : cE ad ca 31 row = .inr (3, [.ref (ad 34), .ref (ad 1), .int (row 2), .int (row 3), .int (row 4), .int (row 5), .int (row 6), .int (row 7), .ref (ad 32), .ref (ad 33), .int (row 10), .ref (ad 35), .ref (ad 36), .ref (ad 39), .int (row 14)]) := rfl
theorem pe_31_2 (ad : Nat → Nat) (ca : Nat → ClassId) (row : Nat → Int32) (x : Int32) : cE ad ca 31 (upd row 2 x) = .inr (3, [.ref (ad 34), .ref (ad 1), .int x, .int (row 3), .int (row 4), .int (row 5), .int (row 6), .int (row 7), .ref (ad 32), .ref (ad 33), .int (row 10), .ref (ad 35), .ref (ad 36), .ref (ad 39), .int (row 14)]) := rfl
theorem pe_31_3 (ad : Nat → Nat) (ca : Nat → ClassId) (row : Nat → Int32) (x : Int32) : cE ad ca 31 (upd row 3 x) = .inr (3, [.ref (ad 34), .ref (ad 1), .int (row 2), .int x, .int (row 4), .int (row 5), .int (row 6), .int (row 7), .ref (ad 32), .ref (ad 33), .int (row 10), .ref (ad 35), .ref (ad 36), .ref (ad 39), .int (row 14)]) := rfl
theorem pe_31_4 (ad : Nat → Nat) (ca : Nat → ClassId) (row : Nat → Int32) (x : Int32) : cE ad ca 31 (upd row 4 x) = .inr (3, [.ref (ad 34), .ref (ad 1), .int (row 2), .int (row 3), .int x, .int (row 5), .int (row 6), .int (row 7), .ref (ad 32), .ref (ad 33), .int (row 10), .ref (ad 35), .ref (ad 36), .ref (ad 39), .int (row 14)]) := rfl
theorem pe_31_5 (ad : Nat → Nat) (ca : Nat → ClassId) (row : Nat → Int32) (x : Int32) : cE ad ca 31 (upd row 5 x) = .inr (3, [.ref (ad 34), .ref (ad 1), .int (row 2), .int (row 3), .int (row 4), .int x, .int (row 6), .int (row 7), .ref (ad 32), .ref (ad 33), .int (row 10), .ref (ad 35), .ref (ad 36), .ref (ad 39), .int (row 14)]) := rfl
theorem pe_31_6 (ad : Nat → Nat) (ca : Nat → ClassId) (row : Nat → Int32) (x : Int32) : cE ad ca 31 (upd row 6 x) = .inr (3, [.ref (ad 34), .ref (ad 1), .int (row 2), .int (row 3), .int (row 4), .int (row 5), .int x, .int (row 7), .ref (ad 32), .ref (ad 33), .int (row 10), .ref (ad 35), .ref (ad 36), .ref (ad 39), .int (row 14)]) := rfl
theorem pe_31_7 (ad : Nat → Nat) (ca : Nat → ClassId) (row : Nat → Int32) (x : Int32) : cE ad ca 31 (upd row 7 x) = .inr (3, [.ref (ad 34), .ref (ad 1), .int (row 2), .int (row 3), .int (row 4), .int (row 5), .int (row 6), .int x, .ref (ad 32), .ref (ad 33), .int (row 10), .ref (ad 35), .ref (ad 36), .ref (ad 39), .int (row 14)]) := rfl
theorem pe_31_10 (ad : Nat → Nat) (ca : Nat → ClassId) (row : Nat → Int32) (x : Int32) : cE ad ca 31 (upd row 10 x) = .inr (3, [.ref (ad 34), .ref (ad 1), .int (row 2), .int (row 3), .int (row 4), .int (row 5), .int (row 6), .int (row 7), .ref (ad 32), .ref (ad 33), .int x, .ref (ad 35), .ref (ad 36), .ref (ad 39), .int (row 14)]) := rfl
theorem pe_31_14 (ad : Nat → Nat) (ca : Nat → ClassId) (row : Nat → Int32) (x : Int32) : cE ad ca 31 (upd row 14 x) = .inr (3, [.ref (ad 34), .ref (ad 1), .int (row 2), .int (row 3), .int (row 4), .int (row 5), .int (row 6), .int (row 7), .ref (ad 32), .ref (ad 33), .int (row 10), .ref (ad 35), .ref (ad 36), .ref (ad 39), .int x]) := rfl
theorem ce_32 (ad : Nat → Nat) (ca : Nat → ClassId) (row : Nat → Int32) : cE ad ca 32 row = .inl (ca 32, 80, .inl row) := rfl
theorem ce_33 (ad : Nat → Nat) (ca : Nat → ClassId) (row : Nat → Int32) : cE ad ca 33 row = .inl (ca 33, 80, .inl row) := rfl
theorem ce_34 (ad : Nat → Nat) (ca : Nat → ClassId) (row : Nat → Int32) : cE ad ca 34 row = .inl (ca 34, 160, .inl row) := rfl
theorem ce_35 (ad : Nat → Nat) (ca : Nat → ClassId) (row : Nat → Int32) : cE ad ca 35 row = .inl (ca 35, 80, .inl row) := rfl
theorem ce_36 (ad : Nat → Nat) (ca : Nat → ClassId) (row : Nat → Int32) : cE ad ca 36 row = .inr (5, [.ref (ad 37), .ref (ad 38), .int (row 2)]) := rfl
theorem pe_36_2 (ad : Nat → Nat) (ca : Nat → ClassId) (row : Nat → Int32) (x : Int32) : cE ad ca 36 (upd row 2 x) = .inr (5, [.ref (ad 37), .ref (ad 38), .int x]) := rfl
theorem ce_37 (ad : Nat → Nat) (ca : Nat → ClassId) (row : Nat → Int32) : cE ad ca 37 row = .inl (ca 37, 80, .inl row) := rfl
theorem ce_38 (ad : Nat → Nat) (ca : Nat → ClassId) (row : Nat → Int32) : cE ad ca 38 row = .inl (ca 38, 80, .inl row) := rfl
theorem ce_39 (ad : Nat → Nat) (ca : Nat → ClassId) (row : Nat → Int32) : cE ad ca 39 row = .inr (5, [.ref (ad 40), .ref (ad 41), .int (row 2)]) := rfl
theorem pe_39_2 (ad : Nat → Nat) (ca : Nat → ClassId) (row : Nat → Int32) (x : Int32) : cE ad ca 39 (upd row 2 x) = .inr (5, [.ref (ad 40), .ref (ad 41), .int x]) := rfl
theorem ce_40 (ad : Nat → Nat) (ca : Nat → ClassId) (row : Nat → Int32) : cE ad ca 40 row = .inl (ca 40, 80, .inl row) := rfl
theorem ce_41 (ad : Nat → Nat) (ca : Nat → ClassId) (row : Nat → Int32) : cE ad ca 41 row = .inl (ca 41, 80, .inl row) := rfl
theorem ce_42 (ad : Nat → Nat) (ca : Nat → ClassId) (row : Nat → Int32) : cE ad ca 42 row = .inr (1, [.ref (ad 45), .ref (ad 1), .int (row 2), .int (row 3), .int (row 4), .int (row 5), .int (row 6), .int (row 7), .ref (ad 43), .ref (ad 44), .int (row 10), .ref (ad 46), .ref (ad 47), .ref (ad 48), .ref (ad 49), .ref (ad 52), .ref (ad 55)]) := rfl
theorem pe_42_2 (ad : Nat → Nat) (ca : Nat → ClassId) (row : Nat → Int32) (x : Int32) : cE ad ca 42 (upd row 2 x) = .inr (1, [.ref (ad 45), .ref (ad 1), .int x, .int (row 3), .int (row 4), .int (row 5), .int (row 6), .int (row 7), .ref (ad 43), .ref (ad 44), .int (row 10), .ref (ad 46), .ref (ad 47), .ref (ad 48), .ref (ad 49), .ref (ad 52), .ref (ad 55)]) := rfl
theorem pe_42_3 (ad : Nat → Nat) (ca : Nat → ClassId) (row : Nat → Int32) (x : Int32) : cE ad ca 42 (upd row 3 x) = .inr (1, [.ref (ad 45), .ref (ad 1), .int (row 2), .int x, .int (row 4), .int (row 5), .int (row 6), .int (row 7), .ref (ad 43), .ref (ad 44), .int (row 10), .ref (ad 46), .ref (ad 47), .ref (ad 48), .ref (ad 49), .ref (ad 52), .ref (ad 55)]) := rfl
theorem pe_42_4 (ad : Nat → Nat) (ca : Nat → ClassId) (row : Nat → Int32) (x : Int32) : cE ad ca 42 (upd row 4 x) = .inr (1, [.ref (ad 45), .ref (ad 1), .int (row 2), .int (row 3), .int x, .int (row 5), .int (row 6), .int (row 7), .ref (ad 43), .ref (ad 44), .int (row 10), .ref (ad 46), .ref (ad 47), .ref (ad 48), .ref (ad 49), .ref (ad 52), .ref (ad 55)]) := rfl
theorem pe_42_5 (ad : Nat → Nat) (ca : Nat → ClassId) (row : Nat → Int32) (x : Int32) : cE ad ca 42 (upd row 5 x) = .inr (1, [.ref (ad 45), .ref (ad 1), .int (row 2), .int (row 3), .int (row 4), .int x, .int (row 6), .int (row 7), .ref (ad 43), .ref (ad 44), .int (row 10), .ref (ad 46), .ref (ad 47), .ref (ad 48), .ref (ad 49), .ref (ad 52), .ref (ad 55)]) := rfl
theorem pe_42_6 (ad : Nat → Nat) (ca : Nat → ClassId) (row : Nat → Int32) (x : Int32) : cE ad ca 42 (upd row 6 x) = .inr (1, [.ref (ad 45), .ref (ad 1), .int (row 2), .int (row 3), .int (row 4), .int (row 5), .int x, .int (row 7), .ref (ad 43), .ref (ad 44), .int (row 10), .ref (ad 46), .ref (ad 47), .ref (ad 48), .ref (ad 49), .ref (ad 52), .ref (ad 55)]) := rfl
theorem pe_42_7 (ad : Nat → Nat) (ca : Nat → ClassId) (row : Nat → Int32) (x : Int32) : cE ad ca 42 (upd row 7 x) = .inr (1, [.ref (ad 45), .ref (ad 1), .int (row 2), .int (row 3), .int (row 4), .int (row 5), .int (row 6), .int x, .ref (ad 43), .ref (ad 44), .int (row 10), .ref (ad 46), .ref (ad 47), .ref (ad 48), .ref (ad 49), .ref (ad 52), .ref (ad 55)]) := rfl
theorem pe_42_10 (ad : Nat → Nat) (ca : Nat → ClassId) (row : Nat → Int32) (x : Int32) : cE ad ca 42 (upd row 10 x) = .inr (1, [.ref (ad 45), .ref (ad 1), .int (row 2), .int (row 3), .int (row 4), .int (row 5), .int (row 6), .int (row 7), .ref (ad 43), .ref (ad 44), .int x, .ref (ad 46), .ref (ad 47), .ref (ad 48), .ref (ad 49), .ref (ad 52), .ref (ad 55)]) := rfl
theorem ce_43 (ad : Nat → Nat) (ca : Nat → ClassId) (row : Nat → Int32) : cE ad ca 43 row = .inl (ca 43, 80, .inl row) := rfl
theorem ce_44 (ad : Nat → Nat) (ca : Nat → ClassId) (row : Nat → Int32) : cE ad ca 44 row = .inl (ca 44, 80, .inl row) := rfl
theorem ce_45 (ad : Nat → Nat) (ca : Nat → ClassId) (row : Nat → Int32) : cE ad ca 45 row = .inl (ca 45, 160, .inl row) := rfl
theorem ce_46 (ad : Nat → Nat) (ca : Nat → ClassId) (row : Nat → Int32) : cE ad ca 46 row = .inl (ca 46, 80, .inl row) := rfl
theorem ce_47 (ad : Nat → Nat) (ca : Nat → ClassId) (row : Nat → Int32) : cE ad ca 47 row = .inl (ca 47, 80, .inl row) := rfl
theorem ce_48 (ad : Nat → Nat) (ca : Nat → ClassId) (row : Nat → Int32) : cE ad ca 48 row = .inl (ca 48, 80, .inl row) := rfl
theorem ce_49 (ad : Nat → Nat) (ca : Nat → ClassId) (row : Nat → Int32) : cE ad ca 49 row = .inr (5, [.ref (ad 50), .ref (ad 51), .int (row 2)]) := rfl
theorem pe_49_2 (ad : Nat → Nat) (ca : Nat → ClassId) (row : Nat → Int32) (x : Int32) : cE ad ca 49 (upd row 2 x) = .inr (5, [.ref (ad 50), .ref (ad 51), .int x]) := rfl
theorem ce_50 (ad : Nat → Nat) (ca : Nat → ClassId) (row : Nat → Int32) : cE ad ca 50 row = .inl (ca 50, 80, .inl row) := rfl
theorem ce_51 (ad : Nat → Nat) (ca : Nat → ClassId) (row : Nat → Int32) : cE ad ca 51 row = .inl (ca 51, 80, .inl row) := rfl
theorem ce_52 (ad : Nat → Nat) (ca : Nat → ClassId) (row : Nat → Int32) : cE ad ca 52 row = .inr (5, [.ref (ad 53), .ref (ad 54), .int (row 2)]) := rfl
theorem pe_52_2 (ad : Nat → Nat) (ca : Nat → ClassId) (row : Nat → Int32) (x : Int32) : cE ad ca 52 (upd row 2 x) = .inr (5, [.ref (ad 53), .ref (ad 54), .int x]) := rfl
theorem ce_53 (ad : Nat → Nat) (ca : Nat → ClassId) (row : Nat → Int32) : cE ad ca 53 row = .inl (ca 53, 80, .inl row) := rfl
theorem ce_54 (ad : Nat → Nat) (ca : Nat → ClassId) (row : Nat → Int32) : cE ad ca 54 row = .inl (ca 54, 80, .inl row) := rfl
theorem ce_55 (ad : Nat → Nat) (ca : Nat → ClassId) (row : Nat → Int32) : cE ad ca 55 row = .inr (5, [.ref (ad 56), .ref (ad 57), .int (row 2)]) := rfl
theorem pe_55_2 (ad : Nat → Nat) (ca : Nat → ClassId) (row : Nat → Int32) (x : Int32) : cE ad ca 55 (upd row 2 x) = .inr (5, [.ref (ad 56), .ref (ad 57), .int x]) := rfl
theorem ce_56 (ad : Nat → Nat) (ca : Nat → ClassId) (row : Nat → Int32) : cE ad ca 56 row = .inl (ca 56, 80, .inl row) := rfl
theorem ce_57 (ad : Nat → Nat) (ca : Nat → ClassId) (row : Nat → Int32) : cE ad ca 57 row = .inl (ca 57, 80, .inl row) := rfl
theorem ce_58 (ad : Nat → Nat) (ca : Nat → ClassId) (row : Nat → Int32) : cE ad ca 58 row = .inl (ca 58, 4, .inr (.inr (.inr (.inr (stF ad))))) := rfl
theorem ty_2 (ca : Nat → ClassId) : (TYS ca)[0]? = some (ca 2, .int) := rfl
theorem ty_3 (ca : Nat → ClassId) : (TYS ca)[1]? = some (ca 3, .int) := rfl
theorem ty_4 (ca : Nat → ClassId) : (TYS ca)[2]? = some (ca 4, .int) := rfl
theorem ty_5 (ca : Nat → ClassId) : (TYS ca)[3]? = some (ca 5, .int) := rfl
theorem ty_7 (ca : Nat → ClassId) : (TYS ca)[4]? = some (ca 7, .int) := rfl
theorem ty_8 (ca : Nat → ClassId) : (TYS ca)[5]? = some (ca 8, .boolean) := rfl
theorem ty_10 (ca : Nat → ClassId) : (TYS ca)[6]? = some (ca 10, .int) := rfl
theorem ty_11 (ca : Nat → ClassId) : (TYS ca)[7]? = some (ca 11, .boolean) := rfl
theorem ty_13 (ca : Nat → ClassId) : (TYS ca)[8]? = some (ca 13, .boolean) := rfl
theorem ty_14 (ca : Nat → ClassId) : (TYS ca)[9]? = some (ca 14, .int) := rfl
theorem ty_16 (ca : Nat → ClassId) : (TYS ca)[10]? = some (ca 16, .int) := rfl
theorem ty_17 (ca : Nat → ClassId) : (TYS ca)[11]? = some (ca 17, .boolean) := rfl
theorem ty_19 (ca : Nat → ClassId) : (TYS ca)[12]? = some (ca 19, .boolean) := rfl
theorem ty_20 (ca : Nat → ClassId) : (TYS ca)[13]? = some (ca 20, .int) := rfl
theorem ty_22 (ca : Nat → ClassId) : (TYS ca)[14]? = some (ca 22, .int) := rfl
theorem ty_23 (ca : Nat → ClassId) : (TYS ca)[15]? = some (ca 23, .boolean) := rfl
theorem ty_25 (ca : Nat → ClassId) : (TYS ca)[16]? = some (ca 25, .int) := rfl
theorem ty_26 (ca : Nat → ClassId) : (TYS ca)[17]? = some (ca 26, .boolean) := rfl
theorem ty_28 (ca : Nat → ClassId) : (TYS ca)[18]? = some (ca 28, .int) := rfl
theorem ty_29 (ca : Nat → ClassId) : (TYS ca)[19]? = some (ca 29, .boolean) := rfl
theorem ty_30 (ca : Nat → ClassId) : (TYS ca)[20]? = some (ca 30, .boolean) := rfl
theorem ty_32 (ca : Nat → ClassId) : (TYS ca)[21]? = some (ca 32, .boolean) := rfl
theorem ty_33 (ca : Nat → ClassId) : (TYS ca)[22]? = some (ca 33, .int) := rfl
theorem ty_34 (ca : Nat → ClassId) : (TYS ca)[23]? = some (ca 34, .boolean) := rfl
theorem ty_35 (ca : Nat → ClassId) : (TYS ca)[24]? = some (ca 35, .int) := rfl
theorem ty_37 (ca : Nat → ClassId) : (TYS ca)[25]? = some (ca 37, .int) := rfl
theorem ty_38 (ca : Nat → ClassId) : (TYS ca)[26]? = some (ca 38, .boolean) := rfl
theorem ty_40 (ca : Nat → ClassId) : (TYS ca)[27]? = some (ca 40, .int) := rfl
theorem ty_41 (ca : Nat → ClassId) : (TYS ca)[28]? = some (ca 41, .boolean) := rfl
theorem ty_43 (ca : Nat → ClassId) : (TYS ca)[29]? = some (ca 43, .boolean) := rfl
theorem ty_44 (ca : Nat → ClassId) : (TYS ca)[30]? = some (ca 44, .int) := rfl
theorem ty_45 (ca : Nat → ClassId) : (TYS ca)[31]? = some (ca 45, .boolean) := rfl
theorem ty_46 (ca : Nat → ClassId) : (TYS ca)[32]? = some (ca 46, .int) := rfl
theorem ty_47 (ca : Nat → ClassId) : (TYS ca)[33]? = some (ca 47, .boolean) := rfl
theorem ty_48 (ca : Nat → ClassId) : (TYS ca)[34]? = some (ca 48, .int) := rfl
theorem ty_50 (ca : Nat → ClassId) : (TYS ca)[35]? = some (ca 50, .int) := rfl
theorem ty_51 (ca : Nat → ClassId) : (TYS ca)[36]? = some (ca 51, .boolean) := rfl
theorem ty_53 (ca : Nat → ClassId) : (TYS ca)[37]? = some (ca 53, .int) := rfl
theorem ty_54 (ca : Nat → ClassId) : (TYS ca)[38]? = some (ca 54, .boolean) := rfl
theorem ty_56 (ca : Nat → ClassId) : (TYS ca)[39]? = some (ca 56, .int) := rfl
theorem ty_57 (ca : Nat → ClassId) : (TYS ca)[40]? = some (ca 57, .boolean) := rfl
theorem ty_58 (ca : Nat → ClassId) : (TYS ca)[41]? = some (ca 58, .object "Tessera$Store") := rfl
theorem tb_good : ∀ w ∈ wsL_law0, goodWord w = true := List.all_eq_true.mp (by decide +kernel)
def NWs : List MethodName := [⟨"Tessera$Store", "placeNew", "(I)V"⟩, ⟨"Tessera$Store", "collectNow", "()I"⟩, ⟨"Tessera$Store", "countToGo", "()I"⟩, ⟨"Tessera$Store", "workToDo", "()I"⟩, ⟨"Tessera$Store", "freeTogether", "()I"⟩, ⟨"Tessera$Store", "forgetThings", "()V"⟩]
/-- what stays the same for all methods: the launch, the classes' numbers, the addresses, the arrays' classes -/
abbrev Gx : Type := Launch × va_G × (Nat → Nat) × (Nat → ClassId)
/-- what stays the same in one method's run -/
abbrev Cx : Type := Program × Env × Room × State × MethodId × Array Value × List Frame × Method × Code × (Nat → Prop)
abbrev gl (G : Gx) : Launch := G.1
abbrev gD (G : Gx) : va_G := G.2.1
abbrev gad (G : Gx) : Nat → Nat := G.2.2.1
abbrev gca (G : Gx) : Nat → ClassId := G.2.2.2
abbrev xp (X : Cx) : Program := X.1
abbrev xe (X : Cx) : Env := X.2.1
abbrev xR (X : Cx) : Room := X.2.2.1
abbrev xs (X : Cx) : State := X.2.2.2.1
abbrev xm (X : Cx) : MethodId := X.2.2.2.2.1
abbrev xargs (X : Cx) : Array Value := X.2.2.2.2.2.1
abbrev xbelow (X : Cx) : List Frame := X.2.2.2.2.2.2.1
abbrev xmeth (X : Cx) : Method := X.2.2.2.2.2.2.2.1
abbrev xc (X : Cx) : Code := X.2.2.2.2.2.2.2.2.1
abbrev xA (X : Cx) : Nat → Prop := X.2.2.2.2.2.2.2.2.2
def qinj (ad : Nat → Nat) : Prop := ∀ i j, i < 59 → j < 59 → ad i = ad j → i = j
def fA (ad : Nat → Nat) (sz : Nat) : Nat → Prop := fun q => (∃ k, k < 59 ∧ q = ad k) ∨ sz ≤ q
def qB (G : Gx) (S : St) (U : State) : Prop := va_P (gD G) vwCl (wl (gad G) (gca G) S) U.heap ∧ va_K (gD G) vwCl (TYS (gca G)) U ∧ ∀ x ∈ NWs, va_Nw (.declares x) U
/-- at pc, with these locals and stack, over the state S: the run comes to Q -/
def QW (G : Gx) (X : Cx) (nL : Nat) (Q : State → Prop) (pc : Nat) (lv : List (Nat × Value)) (st : List Value) (S : St) : Prop :=
  ∀ (H : Heap) (locs : List Loc) (ls : Array Slot), va_P (gD G) vwCl (wl (gad G) (gca G) S) H → va_S (xA X) (xs X).heap H locs → lv_has ls nL lv →
    W (xp X) (gl G) (xe X) (xR X) (xs X) (xm X) (xargs X) (xbelow X) (xmeth X) (xc X) H locs 0 0 Q (F0 (xm X) pc ls st)
def QC (G : Gx) (X : Cx) (cc : ByteArray) (nL : Nat) (own : String) (fr lo : Nat) (ret : Option FieldType) : Prop :=
  (xp X).tables.exec = Jvm.exec ∧ (xc X).code = cc ∧ (xc X).maxLocals = nL ∧ (∀ w ∈ wsL_law0, w.before (xargs X) (xs X) = true) ∧ (xs X).vm.findClass own = some (xm X).cls ∧ va_K (gD G) vwCl (TYS (gca G)) (xs X) ∧
  (∀ x ∈ NWs, va_Nw (.declares x) (xs X)) ∧ qinj (gad G) ∧ (∀ q, (xs X).heap.size ≤ q → xA X q) ∧ (∀ k, k < 59 → xA X (gad G k)) ∧ (xmeth X).sig.returnType = ret ∧ (xmeth X).locks = false ∧ xR X = { frames := fr, cells := 0, slots := 0, locals := lo }
def QE (G : Gx) (X : Cx) (v : Option Value) (S' : St) : State → Prop :=
  MQ (xbelow X) (fun _ st oc t => (oc = .returned v ∧ qB G S' t) ∧ va_F (xA X) st t) (xargs X) (xs X) 0 0 (xA X)
/-- the method y, called with these values over S, returns v and leaves S' -/
def QMet (G : Gx) (y : MethodName) (cc : ByteArray) (nL : Nat) (ret : Option FieldType) (fr lo : Nat) (av : List Value) (S : St) (v : Option Value) (S' : St) : Prop :=
  ∀ sz : Nat, Met (gl G) y (.code y cc nL ret :: wsL_law0) { frames := fr, cells := 0, slots := 0, locals := lo } (va_Pc av (fun U => U.heap.size = sz ∧ qB G S U)) (fun _ st oc t => (oc = .returned v ∧ qB G S' t) ∧ va_F (fA (gad G) sz) st t) 0 0 (fA (gad G) sz)
section QL
variable {G : Gx} {X : Cx} {cc : ByteArray} {nL : Nat} {own : String} {fr lo : Nat} {ret : Option FieldType} {Q : State → Prop} {pc : Nat} {lv : List (Nat × Value)} {st : List Value} {S : St}
theorem q_D {A : Nat → Prop} (hi : qinj (gad G)) (hA : ∀ k, k < 59 → A (gad G k)) : va_D A (wl (gad G) (gca G) S) := by
  refine ⟨fun i j p q h1 h2 h3 => ?_, fun k q h => ?_⟩
  · obtain ⟨l1, rfl⟩ := wl_of h1
    obtain ⟨l2, rfl⟩ := wl_of h2
    exact hi i j l1 l2 h3
  · obtain ⟨l1, rfl⟩ := wl_of h
    exact hA k l1
theorem q_Nw {s U : State} (hW : s.WarmedH U.vm) (h : ∀ x ∈ NWs, va_Nw (.declares x) s) : ∀ x ∈ NWs, va_Nw (.declares x) U := fun x hx => va_Nw.warmD hW (h x hx)
theorem q_entry {y : MethodName} {av : List Value} {v : Option Value} {S' : St} (hy : plainName y.cls = true) (hown : y.cls = own) (hi : qinj (gad G)) (hn : (lg_sl av).length ≤ nL)
    (body : ∀ X : Cx, QC G X cc nL own fr lo ret → QW G X nL (QE G X v S') 0 (lv_args 0 av) [] S) : QMet G y cc nL ret fr lo av S v S' := by
  intro sz
  refine Met.ofW (cc := cc) (maxL := nL) (ret := ret) hy rfl ?_
  intro p e s m args below meth c s₁ B hml hv
  obtain ⟨rfl, hsz, hP, hK, hN⟩ := hv
  have hts := atoms_spec (ws := .code y cc nL ret :: wsL_law0) B.pre
  have hl := lv_entry av (n := nL) hn
  rw [lg_entry_eq]
  subst hsz
  have h := body (p, e, (headSpec (.code y cc nL ret :: wsL_law0) { frames := fr, cells := 0, slots := 0, locals := lo }).room, s, m, av.toArray, below, meth, c, fA (gad G) s.heap.size)
    ⟨B.exec, B.bytes, hml, fun w hw => hts w (List.mem_cons_of_mem _ hw), by rw [← hown]; exact findClass_of_methodNamed B.named, hK, hN, hi, fun q hq => Or.inr hq, fun k hk => Or.inl ⟨k, hk, rfl⟩, B.returns, B.notSynchronized, rfl⟩
  exact h s.heap [] _ hP va_S.rf hl
theorem q_iret {v : Int32} (C : QC G X cc nL own fr lo (some .int)) (d : decode cc pc = .ok (.ireturn, 1)) : QW G X nL (QE G X (some (.int v)) S) pc lv [.int v] S := by
  intro H locs ls hP hS hl
  obtain ⟨hx, hb, -, -, -, hK, hN, -, -, -, hr, hlk, -⟩ := C
  exact W.iret (v := v) hx hb hr (fun t ht hW => ⟨⟨rfl, by rw [ht]; exact hP, va_K.moved hW.alike hK, q_Nw hW hN⟩, hS.F ht⟩) hS.2.2 d hlk
theorem q_zret {v : Int32} {ty : FieldType} (C : QC G X cc nL own fr lo (some ty)) (hn : narrow ty (.int v) = .int v) (d : decode cc pc = .ok (.ireturn, 1)) : QW G X nL (QE G X (some (.int v)) S) pc lv [.int v] S := by
  intro H locs ls hP hS hl
  obtain ⟨hx, hb, -, -, -, hK, hN, -, -, -, hr, hlk, -⟩ := C
  exact W.zret (v := v) hx hb hr hn (fun t ht hW => ⟨⟨rfl, by rw [ht]; exact hP, va_K.moved hW.alike hK, q_Nw hW hN⟩, hS.F ht⟩) hS.2.2 d hlk
theorem q_lret {v : Int64} (C : QC G X cc nL own fr lo (some .long)) (d : decode cc pc = .ok (.lreturn, 1)) : QW G X nL (QE G X (some (.long v)) S) pc lv [.long v] S := by
  intro H locs ls hP hS hl
  obtain ⟨hx, hb, -, -, -, hK, hN, -, -, -, hr, hlk, -⟩ := C
  exact W.lret (v := v) hx hb hr (fun t ht hW => ⟨⟨rfl, by rw [ht]; exact hP, va_K.moved hW.alike hK, q_Nw hW hN⟩, hS.F ht⟩) hS.2.2 d hlk
theorem q_vret (C : QC G X cc nL own fr lo none) (d : decode cc pc = .ok (.return_, 1)) : QW G X nL (QE G X none S) pc lv [] S := by
  intro H locs ls hP hS hl
  obtain ⟨hx, hb, -, -, -, hK, hN, -, -, -, hr, hlk, -⟩ := C
  exact W.vret hx hb hr (fun t ht hW => ⟨⟨rfl, by rw [ht]; exact hP, va_K.moved hW.alike hK, q_Nw hW hN⟩, hS.F ht⟩) hS.2.2 d hlk
/-- fewer locals, in another order -/
theorem q_lv {lv' : List (Nat × Value)} (ks : List Nat) (hl : lv_pick lv ks = lv') (kk : QW G X nL Q pc lv' st S) : QW G X nL Q pc lv st S :=
  fun H locs ls hP hS h => kk H locs ls hP hS (lv_sub h ks hl)
theorem q_pc {pc' : Nat} (h : pc = pc') (kk : QW G X nL Q pc' lv st S) : QW G X nL Q pc lv st S := h ▸ kk
theorem q_iconst (C : QC G X cc nL own fr lo ret) {n : Int} {v : Int32} (d : decode cc pc = .ok (.iconst n, 1)) (hv : Int32.ofInt n = v) (kk : QW G X nL Q (pc + 1) lv (.int v :: st) S) : QW G X nL Q pc lv (st) S :=
  fun H locs ls hP hS hl => lv_iconst C.1 C.2.1 d hv (kk H locs ls hP hS hl)
theorem q_bipush (C : QC G X cc nL own fr lo ret) {n : Int} {v : Int32} (d : decode cc pc = .ok (.bipush n, 2)) (hv : (Int8.ofInt n).toInt32 = v) (kk : QW G X nL Q (pc + 2) lv (.int v :: st) S) : QW G X nL Q pc lv (st) S :=
  fun H locs ls hP hS hl => lv_bipush C.1 C.2.1 d hv (kk H locs ls hP hS hl)
theorem q_sipush (C : QC G X cc nL own fr lo ret) {n : Int} {v : Int32} (d : decode cc pc = .ok (.sipush n, 3)) (hv : (Int16.ofInt n).toInt32 = v) (kk : QW G X nL Q (pc + 3) lv (.int v :: st) S) : QW G X nL Q pc lv (st) S :=
  fun H locs ls hP hS hl => lv_sipush C.1 C.2.1 d hv (kk H locs ls hP hS hl)
theorem q_iload_n (C : QC G X cc nL own fr lo ret) {k : Fin 4} {i : Nat} {x : Int32} (d : decode cc pc = .ok (.iload_n k, 1)) (hi : (k : Nat) = i) (j : Nat) (hk : lv[j]? = some (i, .int x)) (kk : QW G X nL Q (pc + 1) lv (.int x :: st) S) : QW G X nL Q pc lv (st) S :=
  fun H locs ls hP hS hl => lv_iload_n C.1 C.2.1 d hi (lv_at hl j hk) (kk H locs ls hP hS hl)
theorem q_iload (C : QC G X cc nL own fr lo ret) {i : Nat} {x : Int32} (d : decode cc pc = .ok (.iload i, 2)) (j : Nat) (hk : lv[j]? = some (i, .int x)) (kk : QW G X nL Q (pc + 2) lv (.int x :: st) S) : QW G X nL Q pc lv (st) S :=
  fun H locs ls hP hS hl => lv_iload C.1 C.2.1 d (lv_at hl j hk) (kk H locs ls hP hS hl)
theorem q_aload_n (C : QC G X cc nL own fr lo ret) {k : Fin 4} {i : Nat} {x : Nat} (d : decode cc pc = .ok (.aload_n k, 1)) (hi : (k : Nat) = i) (j : Nat) (hk : lv[j]? = some (i, .ref x)) (kk : QW G X nL Q (pc + 1) lv (.ref x :: st) S) : QW G X nL Q pc lv (st) S :=
  fun H locs ls hP hS hl => lv_aload_n C.1 C.2.1 d hi (lv_at hl j hk) (kk H locs ls hP hS hl)
theorem q_aload (C : QC G X cc nL own fr lo ret) {i : Nat} {x : Nat} (d : decode cc pc = .ok (.aload i, 2)) (j : Nat) (hk : lv[j]? = some (i, .ref x)) (kk : QW G X nL Q (pc + 2) lv (.ref x :: st) S) : QW G X nL Q pc lv (st) S :=
  fun H locs ls hP hS hl => lv_aload C.1 C.2.1 d (lv_at hl j hk) (kk H locs ls hP hS hl)
theorem q_lload_n (C : QC G X cc nL own fr lo ret) {k : Fin 4} {i : Nat} {x : Int64} (d : decode cc pc = .ok (.lload_n k, 1)) (hi : (k : Nat) = i) (j : Nat) (hk : lv[j]? = some (i, .long x)) (kk : QW G X nL Q (pc + 1) lv (.long x :: st) S) : QW G X nL Q pc lv (st) S :=
  fun H locs ls hP hS hl => lv_lload_n C.1 C.2.1 d hi (lv_at hl j hk) (kk H locs ls hP hS hl)
theorem q_lload (C : QC G X cc nL own fr lo ret) {i : Nat} {x : Int64} (d : decode cc pc = .ok (.lload i, 2)) (j : Nat) (hk : lv[j]? = some (i, .long x)) (kk : QW G X nL Q (pc + 2) lv (.long x :: st) S) : QW G X nL Q pc lv (st) S :=
  fun H locs ls hP hS hl => lv_lload C.1 C.2.1 d (lv_at hl j hk) (kk H locs ls hP hS hl)
theorem q_istore_n (C : QC G X cc nL own fr lo ret) {k : Fin 4} {i : Nat} {x : Int32} {lv' : List (Nat × Value)} (d : decode cc pc = .ok (.istore_n k, 1)) (hi : (k : Nat) = i) (hn : i < nL) (he : (i, Value.int x) :: lv.filter (fun q => !(q.1 == i) && !(q.1 + 1 == i && q.2.category == 2)) = lv') (kk : QW G X nL Q (pc + 1) lv' st S) : QW G X nL Q pc lv (.int x :: st) S :=
  fun H locs ls hP hS hl => lv_istore_n C.1 C.2.1 d hi hl hn he (fun ls hl => kk H locs ls hP hS hl)
theorem q_istore (C : QC G X cc nL own fr lo ret) {i : Nat} {x : Int32} {lv' : List (Nat × Value)} (d : decode cc pc = .ok (.istore i, 2)) (hn : i < nL) (he : (i, Value.int x) :: lv.filter (fun q => !(q.1 == i) && !(q.1 + 1 == i && q.2.category == 2)) = lv') (kk : QW G X nL Q (pc + 2) lv' st S) : QW G X nL Q pc lv (.int x :: st) S :=
  fun H locs ls hP hS hl => lv_istore C.1 C.2.1 d hl hn he (fun ls hl => kk H locs ls hP hS hl)
theorem q_astore_n (C : QC G X cc nL own fr lo ret) {k : Fin 4} {i : Nat} {x : Nat} {lv' : List (Nat × Value)} (d : decode cc pc = .ok (.astore_n k, 1)) (hi : (k : Nat) = i) (hn : i < nL) (he : (i, Value.ref x) :: lv.filter (fun q => !(q.1 == i) && !(q.1 + 1 == i && q.2.category == 2)) = lv') (kk : QW G X nL Q (pc + 1) lv' st S) : QW G X nL Q pc lv (.ref x :: st) S :=
  fun H locs ls hP hS hl => lv_astore_n C.1 C.2.1 d hi hl hn he (fun ls hl => kk H locs ls hP hS hl)
theorem q_astore (C : QC G X cc nL own fr lo ret) {i : Nat} {x : Nat} {lv' : List (Nat × Value)} (d : decode cc pc = .ok (.astore i, 2)) (hn : i < nL) (he : (i, Value.ref x) :: lv.filter (fun q => !(q.1 == i) && !(q.1 + 1 == i && q.2.category == 2)) = lv') (kk : QW G X nL Q (pc + 2) lv' st S) : QW G X nL Q pc lv (.ref x :: st) S :=
  fun H locs ls hP hS hl => lv_astore C.1 C.2.1 d hl hn he (fun ls hl => kk H locs ls hP hS hl)
theorem q_lstore_n (C : QC G X cc nL own fr lo ret) {k : Fin 4} {i : Nat} {x : Int64} {lv' : List (Nat × Value)} (d : decode cc pc = .ok (.lstore_n k, 1)) (hi : (k : Nat) = i) (hn : i + 1 < nL) (he : (i, Value.long x) :: lv.filter (fun q => !(q.1 == i) && (!(q.1 == i + 1) && !(q.1 + 1 == i && q.2.category == 2))) = lv') (kk : QW G X nL Q (pc + 1) lv' st S) : QW G X nL Q pc lv (.long x :: st) S :=
  fun H locs ls hP hS hl => lv_lstore_n C.1 C.2.1 d hi hl hn he (fun ls hl => kk H locs ls hP hS hl)
theorem q_lstore (C : QC G X cc nL own fr lo ret) {i : Nat} {x : Int64} {lv' : List (Nat × Value)} (d : decode cc pc = .ok (.lstore i, 2)) (hn : i + 1 < nL) (he : (i, Value.long x) :: lv.filter (fun q => !(q.1 == i) && (!(q.1 == i + 1) && !(q.1 + 1 == i && q.2.category == 2))) = lv') (kk : QW G X nL Q (pc + 2) lv' st S) : QW G X nL Q pc lv (.long x :: st) S :=
  fun H locs ls hP hS hl => lv_lstore C.1 C.2.1 d hl hn he (fun ls hl => kk H locs ls hP hS hl)
theorem q_iinc (C : QC G X cc nL own fr lo ret) {i k : Nat} {n : Int} {x v : Int32} {lv' : List (Nat × Value)} (d : decode cc pc = .ok (.iinc i n, 3)) (hk : lv[k]? = some (i, .int x)) (hv : x + Int32.ofInt n = v) (hn : i < nL) (he : (i, Value.int v) :: lv.filter (fun q => !(q.1 == i) && !(q.1 + 1 == i && q.2.category == 2)) = lv') (kk : QW G X nL Q (pc + 3) lv' st S) : QW G X nL Q pc lv st S :=
  fun H locs ls hP hS hl => lv_iinc C.1 C.2.1 d hl hk hv hn he (fun ls hl => kk H locs ls hP hS hl)
theorem q_iadd (C : QC G X cc nL own fr lo ret) {x y : Int32} (d : decode cc pc = .ok (.iadd, 1)) (kk : QW G X nL Q (pc + 1) lv (.int (x + y) :: st) S) : QW G X nL Q pc lv (.int y :: .int x :: st) S :=
  fun H locs ls hP hS hl => lv_iadd C.1 C.2.1 d (kk H locs ls hP hS hl)
theorem q_isub (C : QC G X cc nL own fr lo ret) {x y : Int32} (d : decode cc pc = .ok (.isub, 1)) (kk : QW G X nL Q (pc + 1) lv (.int (x - y) :: st) S) : QW G X nL Q pc lv (.int y :: .int x :: st) S :=
  fun H locs ls hP hS hl => lv_isub C.1 C.2.1 d (kk H locs ls hP hS hl)
theorem q_imul (C : QC G X cc nL own fr lo ret) {x y : Int32} (d : decode cc pc = .ok (.imul, 1)) (kk : QW G X nL Q (pc + 1) lv (.int (x * y) :: st) S) : QW G X nL Q pc lv (.int y :: .int x :: st) S :=
  fun H locs ls hP hS hl => lv_imul C.1 C.2.1 d (kk H locs ls hP hS hl)
theorem q_iand (C : QC G X cc nL own fr lo ret) {x y : Int32} (d : decode cc pc = .ok (.iand, 1)) (kk : QW G X nL Q (pc + 1) lv (.int (x &&& y) :: st) S) : QW G X nL Q pc lv (.int y :: .int x :: st) S :=
  fun H locs ls hP hS hl => lv_iand C.1 C.2.1 d (kk H locs ls hP hS hl)
theorem q_idiv (C : QC G X cc nL own fr lo ret) {x y : Int32} (d : decode cc pc = .ok (.idiv, 1)) (hne : ¬ y = 0) (kk : QW G X nL Q (pc + 1) lv (.int (x / y) :: st) S) : QW G X nL Q pc lv (.int y :: .int x :: st) S :=
  fun H locs ls hP hS hl => lv_idiv C.1 C.2.1 d hne (kk H locs ls hP hS hl)
theorem q_ladd (C : QC G X cc nL own fr lo ret) {x y : Int64} (d : decode cc pc = .ok (.ladd, 1)) (kk : QW G X nL Q (pc + 1) lv (.long (x + y) :: st) S) : QW G X nL Q pc lv (.long y :: .long x :: st) S :=
  fun H locs ls hP hS hl => lv_ladd C.1 C.2.1 d (kk H locs ls hP hS hl)
theorem q_lmul (C : QC G X cc nL own fr lo ret) {x y : Int64} (d : decode cc pc = .ok (.lmul, 1)) (kk : QW G X nL Q (pc + 1) lv (.long (x * y) :: st) S) : QW G X nL Q pc lv (.long y :: .long x :: st) S :=
  fun H locs ls hP hS hl => lv_lmul C.1 C.2.1 d (kk H locs ls hP hS hl)
theorem q_i2l (C : QC G X cc nL own fr lo ret) {x : Int32} (d : decode cc pc = .ok (.i2l, 1)) (kk : QW G X nL Q (pc + 1) lv (.long x.toInt64 :: st) S) : QW G X nL Q pc lv (.int x :: st) S :=
  fun H locs ls hP hS hl => lv_i2l C.1 C.2.1 d rfl (kk H locs ls hP hS hl)
theorem q_ldc2 (C : QC G X cc nL own fr lo ret) {index : Nat} {v : Int64} (hw : Jvm.Cond.constantLong own index v ∈ wsL_law0) (d : decode cc pc = .ok (.ldc2_w index, 3)) (kk : QW G X nL Q (pc + 3) lv (.long v :: st) S) : QW G X nL Q pc lv st S :=
  fun H locs ls hP hS hl => lv_ldc2 C.1 C.2.1 C.2.2.2.2.1 (C.2.2.2.1 _ hw) d (kk H locs ls hP hS hl)
theorem q_dup (C : QC G X cc nL own fr lo ret) {va : Value} (d : decode cc pc = .ok (.dup, 1)) (hva : va.category = 1) (kk : QW G X nL Q (pc + 1) lv (va :: va :: st) S) : QW G X nL Q pc lv (va :: st) S :=
  fun H locs ls hP hS hl => lv_dup C.1 C.2.1 d hva (kk H locs ls hP hS hl)
theorem q_dup2 (C : QC G X cc nL own fr lo ret) {va vb : Value} (d : decode cc pc = .ok (.dup2, 1)) (hva : va.category = 1) (hvb : vb.category = 1) (kk : QW G X nL Q (pc + 1) lv (va :: vb :: va :: vb :: st) S) : QW G X nL Q pc lv (va :: vb :: st) S :=
  fun H locs ls hP hS hl => lv_dup2_11 C.1 C.2.1 d hva hvb (kk H locs ls hP hS hl)
theorem q_pop (C : QC G X cc nL own fr lo ret) {va : Value} (d : decode cc pc = .ok (.pop, 1)) (hva : va.category = 1) (kk : QW G X nL Q (pc + 1) lv st S) : QW G X nL Q pc lv (va :: st) S :=
  fun H locs ls hP hS hl => lv_pop C.1 C.2.1 d hva (kk H locs ls hP hS hl)
theorem q_goto (C : QC G X cc nL own fr lo ret) {off : Int} {tgt : Nat} (d : decode cc pc = .ok (.goto off, 3)) (ht : (pc : Int) + off = (tgt : Int)) (kk : QW G X nL Q tgt lv st S) : QW G X nL Q pc lv st S :=
  fun H locs ls hP hS hl => lv_goto C.1 C.2.1 d ht (kk H locs ls hP hS hl)
theorem q_if_eq (C : QC G X cc nL own fr lo ret) {x : Int32} {off : Int} {tgt : Nat} (d : decode cc pc = .ok (.ifCond .eq off, 3)) (ht : (pc : Int) + off = (tgt : Int)) (kt : x = 0 → QW G X nL Q tgt lv st S) (kf : ¬ x = 0 → QW G X nL Q (pc + 3) lv st S) : QW G X nL Q pc lv (.int x :: st) S :=
  fun H locs ls hP hS hl => lv_if_eq C.1 C.2.1 d ht (fun c => kt c H locs ls hP hS hl) (fun c => kf c H locs ls hP hS hl)
theorem q_icmp_eq (C : QC G X cc nL own fr lo ret) {x y : Int32} {off : Int} {tgt : Nat} (d : decode cc pc = .ok (.if_icmp .eq off, 3)) (ht : (pc : Int) + off = (tgt : Int)) (kt : x = y → QW G X nL Q tgt lv st S) (kf : ¬ x = y → QW G X nL Q (pc + 3) lv st S) : QW G X nL Q pc lv (.int y :: .int x :: st) S :=
  fun H locs ls hP hS hl => lv_icmp_eq C.1 C.2.1 d ht (fun c => kt c H locs ls hP hS hl) (fun c => kf c H locs ls hP hS hl)
theorem q_if_ne (C : QC G X cc nL own fr lo ret) {x : Int32} {off : Int} {tgt : Nat} (d : decode cc pc = .ok (.ifCond .ne off, 3)) (ht : (pc : Int) + off = (tgt : Int)) (kt : ¬ x = 0 → QW G X nL Q tgt lv st S) (kf : x = 0 → QW G X nL Q (pc + 3) lv st S) : QW G X nL Q pc lv (.int x :: st) S :=
  fun H locs ls hP hS hl => lv_if_ne C.1 C.2.1 d ht (fun c => kt c H locs ls hP hS hl) (fun c => kf c H locs ls hP hS hl)
theorem q_icmp_ne (C : QC G X cc nL own fr lo ret) {x y : Int32} {off : Int} {tgt : Nat} (d : decode cc pc = .ok (.if_icmp .ne off, 3)) (ht : (pc : Int) + off = (tgt : Int)) (kt : ¬ x = y → QW G X nL Q tgt lv st S) (kf : x = y → QW G X nL Q (pc + 3) lv st S) : QW G X nL Q pc lv (.int y :: .int x :: st) S :=
  fun H locs ls hP hS hl => lv_icmp_ne C.1 C.2.1 d ht (fun c => kt c H locs ls hP hS hl) (fun c => kf c H locs ls hP hS hl)
theorem q_if_lt (C : QC G X cc nL own fr lo ret) {x : Int32} {off : Int} {tgt : Nat} (d : decode cc pc = .ok (.ifCond .lt off, 3)) (ht : (pc : Int) + off = (tgt : Int)) (kt : x < 0 → QW G X nL Q tgt lv st S) (kf : ¬ x < 0 → QW G X nL Q (pc + 3) lv st S) : QW G X nL Q pc lv (.int x :: st) S :=
  fun H locs ls hP hS hl => lv_if_lt C.1 C.2.1 d ht (fun c => kt c H locs ls hP hS hl) (fun c => kf c H locs ls hP hS hl)
theorem q_icmp_lt (C : QC G X cc nL own fr lo ret) {x y : Int32} {off : Int} {tgt : Nat} (d : decode cc pc = .ok (.if_icmp .lt off, 3)) (ht : (pc : Int) + off = (tgt : Int)) (kt : x < y → QW G X nL Q tgt lv st S) (kf : ¬ x < y → QW G X nL Q (pc + 3) lv st S) : QW G X nL Q pc lv (.int y :: .int x :: st) S :=
  fun H locs ls hP hS hl => lv_icmp_lt C.1 C.2.1 d ht (fun c => kt c H locs ls hP hS hl) (fun c => kf c H locs ls hP hS hl)
theorem q_if_ge (C : QC G X cc nL own fr lo ret) {x : Int32} {off : Int} {tgt : Nat} (d : decode cc pc = .ok (.ifCond .ge off, 3)) (ht : (pc : Int) + off = (tgt : Int)) (kt : 0 ≤ x → QW G X nL Q tgt lv st S) (kf : ¬ 0 ≤ x → QW G X nL Q (pc + 3) lv st S) : QW G X nL Q pc lv (.int x :: st) S :=
  fun H locs ls hP hS hl => lv_if_ge C.1 C.2.1 d ht (fun c => kt c H locs ls hP hS hl) (fun c => kf c H locs ls hP hS hl)
theorem q_icmp_ge (C : QC G X cc nL own fr lo ret) {x y : Int32} {off : Int} {tgt : Nat} (d : decode cc pc = .ok (.if_icmp .ge off, 3)) (ht : (pc : Int) + off = (tgt : Int)) (kt : y ≤ x → QW G X nL Q tgt lv st S) (kf : ¬ y ≤ x → QW G X nL Q (pc + 3) lv st S) : QW G X nL Q pc lv (.int y :: .int x :: st) S :=
  fun H locs ls hP hS hl => lv_icmp_ge C.1 C.2.1 d ht (fun c => kt c H locs ls hP hS hl) (fun c => kf c H locs ls hP hS hl)
theorem q_if_gt (C : QC G X cc nL own fr lo ret) {x : Int32} {off : Int} {tgt : Nat} (d : decode cc pc = .ok (.ifCond .gt off, 3)) (ht : (pc : Int) + off = (tgt : Int)) (kt : 0 < x → QW G X nL Q tgt lv st S) (kf : ¬ 0 < x → QW G X nL Q (pc + 3) lv st S) : QW G X nL Q pc lv (.int x :: st) S :=
  fun H locs ls hP hS hl => lv_if_gt C.1 C.2.1 d ht (fun c => kt c H locs ls hP hS hl) (fun c => kf c H locs ls hP hS hl)
theorem q_icmp_gt (C : QC G X cc nL own fr lo ret) {x y : Int32} {off : Int} {tgt : Nat} (d : decode cc pc = .ok (.if_icmp .gt off, 3)) (ht : (pc : Int) + off = (tgt : Int)) (kt : y < x → QW G X nL Q tgt lv st S) (kf : ¬ y < x → QW G X nL Q (pc + 3) lv st S) : QW G X nL Q pc lv (.int y :: .int x :: st) S :=
  fun H locs ls hP hS hl => lv_icmp_gt C.1 C.2.1 d ht (fun c => kt c H locs ls hP hS hl) (fun c => kf c H locs ls hP hS hl)
theorem q_if_le (C : QC G X cc nL own fr lo ret) {x : Int32} {off : Int} {tgt : Nat} (d : decode cc pc = .ok (.ifCond .le off, 3)) (ht : (pc : Int) + off = (tgt : Int)) (kt : x ≤ 0 → QW G X nL Q tgt lv st S) (kf : ¬ x ≤ 0 → QW G X nL Q (pc + 3) lv st S) : QW G X nL Q pc lv (.int x :: st) S :=
  fun H locs ls hP hS hl => lv_if_le C.1 C.2.1 d ht (fun c => kt c H locs ls hP hS hl) (fun c => kf c H locs ls hP hS hl)
theorem q_icmp_le (C : QC G X cc nL own fr lo ret) {x y : Int32} {off : Int} {tgt : Nat} (d : decode cc pc = .ok (.if_icmp .le off, 3)) (ht : (pc : Int) + off = (tgt : Int)) (kt : x ≤ y → QW G X nL Q tgt lv st S) (kf : ¬ x ≤ y → QW G X nL Q (pc + 3) lv st S) : QW G X nL Q pc lv (.int y :: .int x :: st) S :=
  fun H locs ls hP hS hl => lv_icmp_le C.1 C.2.1 d ht (fun c => kt c H locs ls hP hS hl) (fun c => kf c H locs ls hP hS hl)
theorem q_tableOut (C : QC G X cc nL own fr lo ret) {dflt lo1 hi1 : Int} {offs : Array Int} {len : Nat} {x : Int32} {tgt : Nat} (d : decode cc pc = .ok (.tableswitch dflt lo1 hi1 offs, len)) (h : x.toInt < lo1 ∨ hi1 < x.toInt) (ht : (pc : Int) + dflt = (tgt : Int)) (kk : QW G X nL Q tgt lv st S) : QW G X nL Q pc lv (.int x :: st) S :=
  fun H locs ls hP hS hl => lv_tableOut C.1 C.2.1 d h ht (kk H locs ls hP hS hl)
theorem q_tableIn (C : QC G X cc nL own fr lo ret) {dflt lo1 hi1 : Int} {offs : Array Int} {len : Nat} {x : Int32} {off : Int} {tgt : Nat} (d : decode cc pc = .ok (.tableswitch dflt lo1 hi1 offs, len)) (h1 : ¬ x.toInt < lo1) (h2 : ¬ hi1 < x.toInt) (ho : offs[(x.toInt - lo1).toNat]? = some off) (ht : (pc : Int) + off = (tgt : Int)) (kk : QW G X nL Q tgt lv st S) : QW G X nL Q pc lv (.int x :: st) S :=
  fun H locs ls hP hS hl => lv_tableIn C.1 C.2.1 d h1 h2 ho ht (kk H locs ls hP hS hl)
theorem q_lookup (C : QC G X cc nL own fr lo ret) {dflt : Int} {ps : Array (Int × Int)} {len : Nat} {x : Int32} {off : Int} {tgt : Nat} (d : decode cc pc = .ok (.lookupswitch dflt ps, len)) (hp : (ps.toList.zip (ps.toList.drop 1)).all (fun (a, next) => a.1 < next.1) = true) (ho : Op.lookupswitch.offset ps.toList dflt x.toInt = off) (ht : (pc : Int) + off = (tgt : Int)) (kk : QW G X nL Q tgt lv st S) : QW G X nL Q pc lv (.int x :: st) S :=
  fun H locs ls hP hS hl => lv_lookup C.1 C.2.1 d hp ho ht (kk H locs ls hP hS hl)
theorem q_get {k ci j index N : Nat} {fs : List Value} {v : Value} {ref Cn : String} {T : u_T} (C : QC G X cc nL own fr lo ret) (hk : k < 59) (he : cE (gad G) (gca G) k (S k) = .inr (ci, fs)) (hc : vwCl[ci]? = some (Cn, T, N)) (hin : ∀ w ∈ u_ws Cn T N, w ∈ wsL_law0) (hj : j < N) (hv : fs[j]? = some v) (hlink : Cond.fieldLink own index ref (T j).2.1 (T j).2.2.1 ∈ wsL_law0) (hsame : (T j).1 = ref ∨ Cond.sameField ref (T j).1 (T j).2.1 (T j).2.2.1 ∈ wsL_law0) (d : decode cc pc = .ok (.getfield index, 3)) (kk : QW G X nL Q (pc + 3) lv (v :: st) S) : QW G X nL Q pc lv (.ref (gad G k) :: st) S := by
  intro H locs ls hP hS hl
  obtain ⟨hx, hb, -, hts, hown, hK, -⟩ := C
  refine va_get (D := gD G) (ci := ci) (v := v) (C := Cn) (T := T) (N := N) hx hb hts hin hown hK hP k (by rw [wl_at hk, he]) hc j hj (hts _ hlink) ?_ hv d (kk H locs ls hP hS hl)
  rcases hsame with h | h
  · rw [h]; exact fun _ h9 => h9
  · exact fun x hx9 => u_same (hts _ h) x hx9
theorem q_put {k ci j index N : Nat} {fs : List Value} {x : Int32} {ty : FieldType} {ref Cn : String} {T : u_T} (C : QC G X cc nL own fr lo ret) (ty0 : Nat → FieldType) (hty : ∀ k, k < N → parseFieldDescriptor (T k).2.2.1 = some (ty0 k)) (hnm : ∀ a, a < N → ∀ b, b < N → a ≠ b → (T a).2.1 ≠ (T b).2.1) (hk : k < 59) (he : cE (gad G) (gca G) k (S k) = .inr (ci, fs)) (hput : cE (gad G) (gca G) k (upd (S k) j x) = .inr (ci, fs.set j (.int x))) (hc : vwCl[ci]? = some (Cn, T, N)) (hin : ∀ w ∈ u_ws Cn T N, w ∈ wsL_law0) (hj : j < N) (hl9 : j < fs.length) (hlink : Cond.fieldLink own index ref (T j).2.1 (T j).2.2.1 ∈ wsL_law0) (hsame : (T j).1 = ref ∨ Cond.sameField ref (T j).1 (T j).2.1 (T j).2.2.1 ∈ wsL_law0) (hfin : (T j).2.2.2 = false) (hd : parseFieldDescriptor (T j).2.2.1 = some ty) (hn : narrow ty (.int x) = .int x) (hfit : fits ty (.int x) = true) (d : decode cc pc = .ok (.putfield index, 3)) (kk : QW G X nL Q (pc + 3) lv st (u2 S k j x)) : QW G X nL Q pc lv (.int x :: .ref (gad G k) :: st) S := by
  intro H locs ls hP hS hl
  obtain ⟨hx, hb, -, hts, hown, hK, -, hi, -, hA, -⟩ := C
  refine va_put (D := gD G) (ci := ci) (v := .int x) (ty := ty) (C := Cn) (T := T) (N := N) hx hb hts hin ty0 hty hnm hown hK hP (q_D (A := xA X) hi hA) hS k (by rw [wl_at hk, he]) hc j hj (hts _ hlink) ?_ hfin hd hn hfit hl9 d (fun H1 locs1 hP1 _ hS1 => kk H1 locs1 ls ?_ hS1 hl)
  · rcases hsame with h | h
    · rw [h]; exact fun _ h9 => h9
    · exact fun x hx9 => u_same (hts _ h) x hx9
  · rw [wl_set hput] at hP1
    exact hP1
theorem q_iald {k t0 n : Nat} {i : Int32} (C : QC G X cc nL own fr lo ret) (hk : k < 59) (he : cE (gad G) (gca G) k (S k) = .inl (gca G k, n, .inl (S k))) (ht : (TYS (gca G))[t0]? = some (gca G k, .int)) (hin : vp_in i n) (d : decode cc pc = .ok (.iaload, 1)) (kk : QW G X nL Q (pc + 1) lv (.int (S k i.toNatClampNeg) :: st) S) : QW G X nL Q pc lv (.int i :: .ref (gad G k) :: st) S := by
  intro H locs ls hP hS hl
  obtain ⟨hx, hb, -, hts, hown, hK, -⟩ := C
  exact va_iald hx hb hK hP k t0 (by rw [wl_at hk, he]) ht hin d (kk H locs ls hP hS hl)
theorem q_zald {k t0 n : Nat} {i : Int32} (C : QC G X cc nL own fr lo ret) (hk : k < 59) (he : cE (gad G) (gca G) k (S k) = .inl (gca G k, n, .inl (S k))) (ht : (TYS (gca G))[t0]? = some (gca G k, .boolean)) (hin : vp_in i n) (d : decode cc pc = .ok (.baload, 1)) (kk : QW G X nL Q (pc + 1) lv (.int (S k i.toNatClampNeg) :: st) S) : QW G X nL Q pc lv (.int i :: .ref (gad G k) :: st) S := by
  intro H locs ls hP hS hl
  obtain ⟨hx, hb, -, hts, hown, hK, -⟩ := C
  exact va_zald hx hb hK hP k t0 (by rw [wl_at hk, he]) ht hin d (kk H locs ls hP hS hl)
theorem q_iast {k t0 n : Nat} {i x : Int32} (C : QC G X cc nL own fr lo ret) (hk : k < 59) (he : ∀ row, cE (gad G) (gca G) k row = .inl (gca G k, n, .inl row)) (ht : (TYS (gca G))[t0]? = some (gca G k, .int)) (hin : vp_in i n) (d : decode cc pc = .ok (.iastore, 1)) (kk : QW G X nL Q (pc + 1) lv st (u2 S k i.toNatClampNeg x)) : QW G X nL Q pc lv (.int x :: .int i :: .ref (gad G k) :: st) S := by
  intro H locs ls hP hS hl
  obtain ⟨hx, hb, -, hts, hown, hK, -, hi, -, hA, -⟩ := C
  refine va_iast hx hb hK hP (q_D (A := xA X) hi hA) hS k t0 (by rw [wl_at hk, he]) ht hin d (fun H1 locs1 hP1 _ hS1 => kk H1 locs1 ls ?_ hS1 hl)
  rw [wl_set (he _)] at hP1
  exact hP1
theorem q_zast {k t0 n : Nat} {i x : Int32} (C : QC G X cc nL own fr lo ret) (hk : k < 59) (he : ∀ row, cE (gad G) (gca G) k row = .inl (gca G k, n, .inl row)) (ht : (TYS (gca G))[t0]? = some (gca G k, .boolean)) (hin : vp_in i n) (d : decode cc pc = .ok (.bastore, 1)) (kk : QW G X nL Q (pc + 1) lv st (u2 S k i.toNatClampNeg (vp_nar .boolean x))) : QW G X nL Q pc lv (.int x :: .int i :: .ref (gad G k) :: st) S := by
  intro H locs ls hP hS hl
  obtain ⟨hx, hb, -, hts, hown, hK, -, hi, -, hA, -⟩ := C
  refine va_zast hx hb hK hP (q_D (A := xA X) hi hA) hS k t0 (by rw [wl_at hk, he]) ht hin d (fun H1 locs1 hP1 _ hS1 => kk H1 locs1 ls ?_ hS1 hl)
  rw [wl_set (he _)] at hP1
  exact hP1
theorem nar0 : vp_nar .boolean 0 = 0 := by decide
theorem nar1 : vp_nar .boolean 1 = 1 := by decide
theorem q_zast0 {k t0 n : Nat} {i : Int32} (C : QC G X cc nL own fr lo ret) (hk : k < 59) (he : ∀ row, cE (gad G) (gca G) k row = .inl (gca G k, n, .inl row)) (ht : (TYS (gca G))[t0]? = some (gca G k, .boolean)) (hin : vp_in i n) (d : decode cc pc = .ok (.bastore, 1)) (kk : QW G X nL Q (pc + 1) lv st (u2 S k i.toNatClampNeg 0)) : QW G X nL Q pc lv (.int 0 :: .int i :: .ref (gad G k) :: st) S :=
  q_zast C hk he ht hin d (by rw [nar0]; exact kk)
theorem q_zast1 {k t0 n : Nat} {i : Int32} (C : QC G X cc nL own fr lo ret) (hk : k < 59) (he : ∀ row, cE (gad G) (gca G) k row = .inl (gca G k, n, .inl row)) (ht : (TYS (gca G))[t0]? = some (gca G k, .boolean)) (hin : vp_in i n) (d : decode cc pc = .ok (.bastore, 1)) (kk : QW G X nL Q (pc + 1) lv st (u2 S k i.toNatClampNeg 1)) : QW G X nL Q pc lv (.int 1 :: .int i :: .ref (gad G k) :: st) S :=
  q_zast C hk he ht hin d (by rw [nar1]; exact kk)
theorem q_aret {k : Nat} {rt : FieldType} (C : QC G X cc nL own fr lo (some rt)) (hr9 : (∃ n, rt = FieldType.object n) ∨ ∃ t, rt = FieldType.array t) (d : decode cc pc = .ok (.areturn, 1)) : QW G X nL (QE G X (some (.ref (gad G k))) S) pc lv [.ref (gad G k)] S := by
  intro H locs ls hP hS hl
  obtain ⟨hx, hb, -, -, -, hK, hN, -, -, -, hr, hlk, -⟩ := C
  exact W.aret (v := .ref (gad G k)) hx hb hr hr9 (Or.inr ⟨_, rfl⟩) (fun t ht hW => ⟨⟨rfl, by rw [ht]; exact hP, va_K.moved hW.alike hK, q_Nw hW hN⟩, hS.F ht⟩) hS.2.2 d hlk
theorem q_out {x : Int32} (n : Nat) (hn : n < 2 ^ 31) (l : List Int32) (hl : (List.range (n + 1)).map nI = l) (h : ∀ z ∈ l, ¬ x = z) : x.toInt < 0 ∨ (n : Int) < x.toInt := by
  rcases Decidable.em (x.toInt < 0) with h1 | h1
  · exact Or.inl h1
  · refine Or.inr (Int.not_le.mp fun h2 => ?_)
    have e : x = nI x.toInt.toNat := Int32.toInt_inj.mp (by rw [nI_toInt (by omega)]; omega)
    refine h x ?_ rfl
    rw [← hl, List.mem_map]
    exact ⟨x.toInt.toNat, List.mem_range.mpr (by omega), e.symm⟩
theorem q_alen {k t0 n : Nat} {ty : FieldType} {v : Int32} {x : (Nat → Int32) ⊕ (Nat → Int64) ⊕ (Nat → UInt32) ⊕ (Nat → UInt64) ⊕ (Nat → Option Nat)} (C : QC G X cc nL own fr lo ret) (hk : k < 59) (he : cE (gad G) (gca G) k (S k) = .inl (gca G k, n, x)) (ht : (TYS (gca G))[t0]? = some (gca G k, ty)) (hv : Int32.ofNat n = v) (d : decode cc pc = .ok (.arraylength, 1)) (kk : QW G X nL Q (pc + 1) lv (.int v :: st) S) : QW G X nL Q pc lv (.ref (gad G k) :: st) S := by
  intro H locs ls hP hS hl
  obtain ⟨hx, hb, -, hts, hown, hK, -⟩ := C
  exact va_alen hx hb hK hP k t0 (by rw [wl_at hk, he]) ht hv d (kk H locs ls hP hS hl)
theorem q_aald {i : Int32} {k n : Nat} (C : QC G X cc nL own fr lo ret) (hi : i = nI n) (hn : n < 4) (hkn : stF (gad G) n = some (gad G k)) (d : decode cc pc = .ok (.aaload, 1)) (kk : QW G X nL Q (pc + 1) lv (.ref (gad G k) :: st) S) : QW G X nL Q pc lv (.int i :: .ref (gad G 58) :: st) S := by
  intro H locs ls hP hS hl
  obtain ⟨hx, hb, -, hts, hown, hK, -⟩ := C
  subst hi
  refine va_aldq hx hb hK hP 58 41 (by rw [wl_at (by decide), ce_58]) (ty_58 _) (vp_in_nI hn (by decide)) d ?_
  rw [nI_clamp (by omega), hkn]
  exact kk H locs ls hP hS hl
theorem q_max {index : Nat} {x y : Int32} (C : QC G X cc nL own fr lo ret) (hlink : Cond.methodLink own index Lib.Math.max.name ∈ wsL_law0) (hstat : Cond.static Lib.Math.max.name ∈ wsL_law0) (hini : Cond.initialized "java/lang/Math" ∈ wsL_law0) (hcode : Cond.code Lib.Math.max.name Lib.Math.max.code 2 (some .int) ∈ wsL_law0) (hfr : 1 ≤ fr) (hlo : (st.map fun v => v.category).sum + 13 ≤ lo) (d : decode cc pc = .ok (.invokestatic index, 3)) (kk : QW G X nL Q (pc + 3) lv (.int (if x < y then y else x) :: st) S) : QW G X nL Q pc lv (.int y :: .int x :: st) S := by
  intro H locs ls hP hS hl
  obtain ⟨hx, hb, hml, hts, hown, hK, -, -, -, -, -, -, hR⟩ := C
  exact va_mmax hx hb (hml.trans hl.1.symm) hown (hts _ hlink) (hts _ hstat) (hts _ hini) (hts _ hcode) (by rw [hR]; exact hfr) (by rw [hR]; exact hlo) (Nat.zero_le _) (Nat.zero_le _) d (kk H locs ls hP hS hl)
theorem q_on {v : Option Value} {S' : St} {rest : List Value} {H : Heap} {locs : List Loc} {ls : Array Slot} (C : QC G X cc nL own fr lo ret) (hS : va_S (xA X) (xs X).heap H locs) (hl : lv_has ls nL lv)
    (hr : va_Run (xp X) (gl G) (xe X) (xR X) (xs X) (xm X) (xargs X) (xbelow X) (xmeth X) (xc X) H locs 0 0 0 0 (F0 (xm X) pc ls st) rest (fun st oc t => (oc = .returned v ∧ qB G S' t) ∧ va_F (fA (gad G) H.size) st t) (fA (gad G) H.size))
    (kk : QW G X nL Q (pc + 3) lv (v.toList ++ rest) S') : W (xp X) (gl G) (xe X) (xR X) (xs X) (xm X) (xargs X) (xbelow X) (xmeth X) (xc X) H locs 0 0 Q (F0 (xm X) pc ls st) := by
  obtain ⟨hx, hb, hml, hts, hown, hK, -, -, hA, hA2, -⟩ := C
  have hf : ∀ q, fA (gad G) H.size q → xA X q := by
    intro q hq
    rcases hq with ⟨k, hk, rfl⟩ | hq
    · exact hA2 k hk
    · exact hA q (Nat.le_trans hS.1 hq)
  intro T hT X9
  obtain ⟨v9, st₀, t, T', L, h0, X', hL, e1, e2, ⟨⟨hv, hP1, -, -⟩, hz, hk⟩, stp⟩ := hr T hT X9
  cases hv
  rw [h0] at hz hk
  obtain ⟨t2, a1, b1⟩ := kk T'.heap (locs ++ L) ls (by rw [e1]; exact hP1)
    ⟨Nat.le_trans hS.1 (by rw [e1]; exact hz), fun q h1 h2 => by rw [e1, hk q (Nat.lt_of_lt_of_le h1 hS.1) (fun z => h2 (hf q z))]; exact hS.2.1 q h1 h2, fun q hq => by
      rcases List.mem_append.mp hq with h | h
      · exact hS.2.2 q h
      · exact hf _ (hL q h)⟩ hl T' rfl X'
  exact ⟨t2, stp t2 a1, b1⟩
theorem q_blind {av : List Value} {sz : Nat} {S : St} : FrameBlind (va_Pc av (fun U => U.heap.size = sz ∧ qB G S U)) := fun a U g mk q => by
  obtain ⟨q0, q1, qP, qK, qN⟩ := q
  exact ⟨q0, q1, qP, va_K.moved (u := U) (U := U.calling g mk a) (Vm.Alike.refl U.vm) qK, fun x hx => va_Nw.same rfl (u := U) (U := U.calling g mk a) rfl (qN x hx)⟩
theorem q_good {ws ws' : List Cond} {y : MethodName} {cy : ByteArray} {ny : Nat} {ry : Option FieldType} (hc : Cond.code y cy ny ry ∈ wsL_law0) (h : ∀ w ∈ ws, w ∈ wsL_law0) (hw : ws' = ws ++ (Cond.code y cy ny ry :: wsL_law0)) : GoodIn wsL_law0 ws' := by
  intro w hw9
  have hm : w ∈ wsL_law0 := by
    rw [hw] at hw9
    rcases List.mem_append.mp hw9 with q | q
    · exact h w q
    · rcases List.mem_cons.mp q with q | q
      · rw [q]; exact hc
      · exact q
  exact ⟨hm, good_of_word (tb_good w hm)⟩
section QCall
variable {k ci index n ny fy loy nA : Nat} {fs As rest : List Value} {x y : MethodName} {cy : ByteArray} {ry : Option FieldType} {v : Option Value} {S' : St} {owner Cn : String} {T : u_T} {N : Nat}
/-- a call of the receiver's own method -/
theorem q_callV (C : QC G X cc nL own fr lo ret) (hM : QMet G y cy ny ry fy loy (.ref (gad G k) :: As) S v S') (hk : k < 59) (he : cE (gad G) (gca G) k (S k) = .inr (ci, fs)) (hc : vwCl[ci]? = some (Cn, T, N))
    (w1 : Cond.methodLink own index y ∈ wsL_law0) (w2 : Cond.instanceMethod y ∈ wsL_law0) (w3 : Cond.selects Cn y y ∈ wsL_law0) (w4 : Cond.initialized Cn ∈ wsL_law0) (w5 : Cond.code y cy ny ry ∈ wsL_law0)
    (hd : y.cls = Cn ∧ y.cls ≠ "java/lang/invoke/MethodHandle" ∧ y.cls ≠ "java/lang/invoke/VarHandle" ∧ (parseMethodDescriptor y.desc).map (fun d => d.parameters.length) = some nA) (hA9 : As.length = nA) (hR : fy + 1 ≤ fr ∧ 8 + (ny + 11) + loy ≤ lo) (hW : (rest.map fun v => v.category).sum ≤ 8) (hst : As.reverse ++ .ref (gad G k) :: rest = st) (d : decode cc pc = .ok (.invokevirtual index, 3))
    (kk : QW G X nL Q (pc + 3) lv (v.toList ++ rest) S') : QW G X nL Q pc lv st S := by
  intro H locs ls hP hS hl
  have C0 := C
  subst hA9
  obtain ⟨hx, hb, hml, hts, hown, hK, hN, hi, -, -, -, -, hRm⟩ := C
  have hG : GoodIn wsL_law0 (wsV own index Cn y (.code y cy ny ry :: wsL_law0)) := q_good w5 (by
    intro w hw
    rcases List.mem_cons.mp hw with q | hw; · rw [q]; exact w1
    rcases List.mem_cons.mp hw with q | hw; · rw [q]; exact w2
    rcases List.mem_cons.mp hw with q | hw; · rw [q]; exact w3
    rcases List.mem_cons.mp hw with q | hw; · rw [q]; exact w4
    cases hw) rfl
  refine q_on C0 hS hl (va_runV (As := As) (rest := rest) ⟨hx, hb, hml, hown, hts⟩ (hM H.size) (cwV As.length hts hG rfl rfl rfl hd (by rw [hRm]; exact hR)) ⟨q_blind, va_recv hK hP (ci := ci) (q0 := k) hc (by rw [wl_at hk, he]), fun U hU hW9 => ⟨rfl, by rw [hU], by rw [hU]; exact hP, va_K.moved hW9.alike hK, q_Nw hW9 hN⟩⟩ rfl rfl hl.1 hst.symm (lv_room hW) d ⟨Nat.zero_le _, Nat.zero_le _⟩) kk
/-- a call by the name of a class above, or of an abstract method -/
theorem q_callU (C : QC G X cc nL own fr lo ret) (hM : QMet G y cy ny ry fy loy (.ref (gad G k) :: As) S v S') (hk : k < 59) (he : cE (gad G) (gca G) k (S k) = .inr (ci, fs)) (hc : vwCl[ci]? = some (Cn, T, N))
    (hz : y = ⟨owner, x.name, x.desc⟩ ∨ ⟨owner, x.name, x.desc⟩ ∈ NWs ∨ ∃ b0 m0 r0, Cond.instanceMethod ⟨owner, x.name, x.desc⟩ ∈ wsL_law0 ∧ Cond.code ⟨owner, x.name, x.desc⟩ b0 m0 r0 ∈ wsL_law0)
    (w1 : Cond.methodLink own index x ∈ wsL_law0) (w6 : Cond.sameMethod x.cls owner x.name x.desc ∈ wsL_law0) (w2 : Cond.instanceMethod y ∈ wsL_law0) (w3 : Cond.selects Cn x y ∈ wsL_law0) (w4 : Cond.initialized y.cls ∈ wsL_law0) (w5 : Cond.code y cy ny ry ∈ wsL_law0)
    (hd : owner ≠ "java/lang/invoke/MethodHandle" ∧ owner ≠ "java/lang/invoke/VarHandle" ∧ (parseMethodDescriptor x.desc).map (fun d => d.parameters.length) = some nA) (hA9 : As.length = nA) (hR : fy + 1 ≤ fr ∧ 8 + (ny + 11) + loy ≤ lo) (hW : (rest.map fun v => v.category).sum ≤ 8) (hst : As.reverse ++ .ref (gad G k) :: rest = st) (d : decode cc pc = .ok (.invokevirtual index, 3))
    (kk : QW G X nL Q (pc + 3) lv (v.toList ++ rest) S') : QW G X nL Q pc lv st S := by
  intro H locs ls hP hS hl
  have C0 := C
  subst hA9
  obtain ⟨hx, hb, hml, hts, hown, hK, hN, hi, -, -, -, -, hRm⟩ := C
  have hG : GoodIn wsL_law0 (va_wsU own index Cn owner x y (.code y cy ny ry :: wsL_law0)) := q_good w5 (by
    intro w hw
    rcases List.mem_cons.mp hw with q | hw; · rw [q]; exact w1
    rcases List.mem_cons.mp hw with q | hw; · rw [q]; exact w6
    rcases List.mem_cons.mp hw with q | hw; · rw [q]; exact w3
    rcases List.mem_cons.mp hw with q | hw; · rw [q]; exact w2
    rcases List.mem_cons.mp hw with q | hw; · rw [q]; exact w4
    cases hw) rfl
  have cw : va_CU (xR X) (xs X) (xargs X) own Cn owner index x y cy ny ry (.code y cy ny ry :: wsL_law0) { frames := fy, cells := 0, slots := 0, locals := loy } 0 0 As.length := by
    rcases hz with h | h | ⟨b0, m0, r0, h1, h2⟩
    · exact va_cwU As.length hts hG rfl rfl rfl h hd (by rw [hRm]; exact hR)
    · exact va_cwA As.length hts hG rfl rfl rfl (hN _ h) hd (by rw [hRm]; exact hR)
    · have hG2 : GoodIn wsL_law0 (va_wsO own index Cn owner x y (.code y cy ny ry :: wsL_law0)) := q_good w5 (by
        intro w hw
        rcases List.mem_cons.mp hw with q | hw; · rw [q]; exact w1
        rcases List.mem_cons.mp hw with q | hw; · rw [q]; exact w6
        rcases List.mem_cons.mp hw with q | hw; · rw [q]; exact h1
        rcases List.mem_cons.mp hw with q | hw; · rw [q]; exact w3
        rcases List.mem_cons.mp hw with q | hw; · rw [q]; exact w2
        rcases List.mem_cons.mp hw with q | hw; · rw [q]; exact w4
        cases hw) rfl
      exact va_cwO As.length hts hG2 rfl rfl rfl h2 hd (by rw [hRm]; exact hR)
  refine q_on C0 hS hl (va_runU (As := As) (rest := rest) ⟨hx, hb, hml, hown, hts⟩ (hM H.size) cw ⟨q_blind, va_recv hK hP (ci := ci) (q0 := k) hc (by rw [wl_at hk, he]), fun U hU hW9 => ⟨rfl, by rw [hU], by rw [hU]; exact hP, va_K.moved hW9.alike hK, q_Nw hW9 hN⟩⟩ rfl rfl hl.1 hst.symm (lv_room hW) d ⟨Nat.zero_le _, Nat.zero_le _⟩) kk
/-- a static call -/
theorem q_callS (C : QC G X cc nL own fr lo ret) (hM : QMet G y cy ny ry fy loy As S v S')
    (w1 : Cond.methodLink own index y ∈ wsL_law0) (w2 : Cond.static y ∈ wsL_law0) (w4 : Cond.initialized y.cls ∈ wsL_law0) (w5 : Cond.code y cy ny ry ∈ wsL_law0)
    (hd : y.cls ≠ "java/lang/invoke/MethodHandle" ∧ y.cls ≠ "java/lang/invoke/VarHandle" ∧ (parseMethodDescriptor y.desc).map (fun d => d.parameters.length) = some nA) (hA9 : As.length = nA) (hR : fy + 1 ≤ fr ∧ 8 + (ny + 11) + loy ≤ lo) (hW : (rest.map fun v => v.category).sum ≤ 8) (hst : As.reverse ++ rest = st) (d : decode cc pc = .ok (.invokestatic index, 3))
    (kk : QW G X nL Q (pc + 3) lv (v.toList ++ rest) S') : QW G X nL Q pc lv st S := by
  intro H locs ls hP hS hl
  have C0 := C
  subst hA9
  obtain ⟨hx, hb, hml, hts, hown, hK, hN, hi, -, -, -, -, hRm⟩ := C
  have hG : GoodIn wsL_law0 (va_wsS own index y (.code y cy ny ry :: wsL_law0)) := q_good w5 (by
    intro w hw
    rcases List.mem_cons.mp hw with q | hw; · rw [q]; exact w1
    rcases List.mem_cons.mp hw with q | hw; · rw [q]; exact w2
    rcases List.mem_cons.mp hw with q | hw; · rw [q]; exact w4
    cases hw) rfl
  refine q_on C0 hS hl (va_runS (As := As) (rest := rest) ⟨hx, hb, hml, hown, hts⟩ (hM H.size) (va_cwS As.length hts hG rfl rfl rfl hd (by rw [hRm]; exact hR)) ⟨q_blind, fun U hU hW9 => ⟨rfl, by rw [hU], by rw [hU]; exact hP, va_K.moved hW9.alike hK, q_Nw hW9 hN⟩⟩ rfl rfl hl.1 hst.symm (lv_room hW) d ⟨Nat.zero_le _, Nat.zero_le _⟩) kk
end QCall
end QL
/-! results of the decompiled functions, one behind the other -/
def ob {α β γ : Type} (x : Option (α × β)) (f : α → β → Option γ) : Option γ := match x with
  | none => none
  | some (a, b) => f a b
theorem ob_some {α β γ : Type} {x : Option (α × β)} {f : α → β → Option γ} {r : γ} (h : ob x f = some r) : ∃ a b, x = some (a, b) ∧ f a b = some r := by
  cases x with
  | none => cases h
  | some q => exact ⟨q.1, q.2, rfl, h⟩
def o1 {α γ : Type} (x : Option α) (f : α → Option γ) : Option γ := match x with
  | none => none
  | some a => f a
theorem o1_some {α γ : Type} {x : Option α} {f : α → Option γ} {r : γ} (h : o1 x f = some r) : ∃ a, x = some a ∧ f a = some r := by
  cases x with
  | none => cases h
  | some q => exact ⟨q, rfl, h⟩
def oc {α β γ δ : Type} (x : Option (α × β × δ)) (f : α → β → δ → Option γ) : Option γ := match x with
  | none => none
  | some (a, b, d) => f a b d
theorem oc_some {α β γ δ : Type} {x : Option (α × β × δ)} {f : α → β → δ → Option γ} {r : γ} (h : oc x f = some r) : ∃ a b d, x = some (a, b, d) ∧ f a b d = some r := by
  cases x with
  | none => cases h
  | some q => exact ⟨q.1, q.2.1, q.2.2, rfl, h⟩
theorem hm_t {c : Prop} [Decidable c] {α : Type} {a b x : Option α} (hc : c) (h : (if c then a else b) = x) : a = x := by rwa [if_pos hc] at h
theorem hm_f {c : Prop} [Decidable c] {α : Type} {a b x : Option α} (hc : ¬ c) (h : (if c then a else b) = x) : b = x := by rwa [if_neg hc] at h
end
section
abbrev qin (i : Int32) (n : Nat) : Prop := ¬ (i < 0 ∨ n ≤ i.toNatClampNeg)
def oi {γ : Type} (c : Prop) [Decidable c] (x : Option γ) : Option γ := if c then x else none
def m_Arr_fill_6_L5 (q : Nat) : Nat → St → Int32 → Int32 → Int32 → Option (St)
  | 0, _, _, _, _ => none
  | n + 1, S, v1, v2, v3 =>
    if v3 ≤ v2 then
      some S
    else
      oi (qin v2 6) <|
      m_Arr_fill_6_L5 q n (u2 S q v2.toNatClampNeg v1) v1 (v2 + (1 : Int32)) v3
def m_Arr_fill_6 (q : Nat) (S : St) (a1 : Int32) : Option St :=
  o1 (m_Arr_fill_6_L5 q 200 S a1 (0 : Int32) (6 : Int32)) fun S1 =>
  some S1
def m_Row_empty_L2 (k : Nat) : Nat → St → Int32 → Option (St)
  | 0, _, _ => none
  | n + 1, S, v1 =>
    if (80 : Int32) ≤ v1 then
      some S
    else
      oi (qin v1 80) <|
      m_Row_empty_L2 k n (u2 S (k + 2) v1.toNatClampNeg (0 : Int32)) (v1 + (1 : Int32))
def m_Row_empty (k : Nat) (S : St)  : Option St :=
  o1 (m_Row_empty_L2 k 200 S (0 : Int32)) fun S1 =>
  some (u2 S1 k 2 (0 : Int32))
def m_Gr_startAnew (S : St)  : Option St :=
  o1 (m_Arr_fill_6 4 (u2 S 1 6 (0 : Int32)) (-1 : Int32)) fun S1 =>
  o1 (m_Row_empty 6 S1) fun S2 =>
  some S2
def m_St_letAllGo_L2 (k d : Nat) : Nat → St → Int32 → Option (St)
  | 0, _, _ => none
  | n + 1, S, v1 =>
    if (80 : Int32) ≤ v1 then
      some S
    else
      oi (qin v1 80) <|
      m_St_letAllGo_L2 k d n (u2 S (k + 1) v1.toNatClampNeg (0 : Int32)) (v1 + (1 : Int32))
def m_St_letAllGo (k d : Nat) (S : St)  : Option St :=
  o1 (m_St_letAllGo_L2 k d 200 S (0 : Int32)) fun S1 =>
  some S1
def m_Cop_forgetThings (S : St)  : Option St :=
  some (u2 (u2 S 12 10 (0 : Int32)) 12 11 (0 : Int32))
def m_St_resetCounters_Cop (S : St)  : Option Unit :=
  some ()
def m_St_startAnew_Cop (S : St) (a1 : Int32) : Option St :=
  o1 (m_St_letAllGo 12 0 (u2 (u2 (u2 (u2 (u2 (u2 S 12 1 a1) 12 2 (0 : Int32)) 12 3 (0 : Int32)) 12 4 (0 : Int32)) 12 5 (0 : Int32)) 12 6 (0 : Int32))) fun S1 =>
  o1 (m_Cop_forgetThings S1) fun S2 =>
  o1 (m_St_resetCounters_Cop S2) fun u1 =>
  some S2
def m_Nur_forgetThings (S : St)  : Option St :=
  o1 (m_Row_empty 21 S) fun S1 =>
  o1 (m_Row_empty 24 S1) fun S2 =>
  some (u2 (u2 S2 18 15 (0 : Int32)) 18 16 ((S2 18 1) / (4 : Int32)))
def m_Nur_resetCounters (S : St)  : Option St :=
  some (u2 (u2 S 18 9 (0 : Int32)) 18 10 (0 : Int32))
def m_St_startAnew_Nur (S : St) (a1 : Int32) : Option St :=
  o1 (m_St_letAllGo 18 0 (u2 (u2 (u2 (u2 (u2 (u2 S 18 1 a1) 18 2 (0 : Int32)) 18 3 (0 : Int32)) 18 4 (0 : Int32)) 18 5 (0 : Int32)) 18 6 (0 : Int32))) fun S1 =>
  o1 (m_Nur_forgetThings S1) fun S2 =>
  o1 (m_Nur_resetCounters S2) fun S3 =>
  some S3
def m_Mar_forgetThings (S : St)  : Option St :=
  o1 (m_Row_empty 36 (u2 S 31 10 (0 : Int32))) fun S1 =>
  some (u2 S1 31 14 (0 : Int32))
def m_St_resetCounters_Mar (S : St)  : Option Unit :=
  some ()
def m_St_startAnew_Mar (S : St) (a1 : Int32) : Option St :=
  o1 (m_St_letAllGo 31 1 (u2 (u2 (u2 (u2 (u2 (u2 S 31 2 a1) 31 3 (0 : Int32)) 31 4 (0 : Int32)) 31 5 (0 : Int32)) 31 6 (0 : Int32)) 31 7 (0 : Int32))) fun S1 =>
  o1 (m_Mar_forgetThings S1) fun S2 =>
  o1 (m_St_resetCounters_Mar S2) fun u1 =>
  some S2
def m_Cou_forgetThings_L2 : Nat → St → Int32 → Option (St)
  | 0, _, _ => none
  | n + 1, S, v1 =>
    if (80 : Int32) ≤ v1 then
      some S
    else
      oi (qin v1 80) <|
      m_Cou_forgetThings_L2 n (u2 S 47 v1.toNatClampNeg (0 : Int32)) (v1 + (1 : Int32))
def m_Cou_forgetThings (S : St)  : Option St :=
  o1 (m_Cou_forgetThings_L2 200 S (0 : Int32)) fun S1 =>
  some S1
def m_Cou_resetCounters (S : St)  : Option St :=
  some (u2 S 42 10 (0 : Int32))
def m_St_startAnew_Cou (S : St) (a1 : Int32) : Option St :=
  o1 (m_St_letAllGo 42 1 (u2 (u2 (u2 (u2 (u2 (u2 S 42 2 a1) 42 3 (0 : Int32)) 42 4 (0 : Int32)) 42 5 (0 : Int32)) 42 6 (0 : Int32)) 42 7 (0 : Int32))) fun S1 =>
  o1 (m_Cou_forgetThings S1) fun S2 =>
  o1 (m_Cou_resetCounters S2) fun S3 =>
  some S3
def m_Te_begin (S : St) (a1 : Int32) : Option (Int32 × St) :=
  if a1 < (40 : Int32) then
    none
  else
    if a1 ≤ (160 : Int32) then
      o1 (m_Gr_startAnew (u2 S 0 5 a1)) fun S1 =>
      o1 (m_St_startAnew_Cop S1 a1) fun S2 =>
      o1 (m_St_startAnew_Nur S2 a1) fun S3 =>
      o1 (m_St_startAnew_Mar S3 a1) fun S4 =>
      o1 (m_St_startAnew_Cou S4 a1) fun S5 =>
      some ((S 0 5), S5)
    else
      none
def m_Te_things (S : St)  : Option Int32 :=
  some (S 1 6)
def m_Te_checkRoot (S : St) (a0 : Int32) : Option Unit :=
  if a0 < (0 : Int32) then
    none
  else
    if a0 < (6 : Int32) then
      some ()
    else
      none
def m_St_openPause (k d : Nat) (S : St)  : Option St :=
  some (u2 S k (d + 6) (S k (d + 2)))
def m_Te_openPauses (S : St)  : Option St :=
  o1 (m_St_openPause 12 0 S) fun S1 =>
  o1 (m_St_openPause 18 0 S1) fun S2 =>
  o1 (m_St_openPause 31 1 S2) fun S3 =>
  o1 (m_St_openPause 42 1 S3) fun S4 =>
  some S4
def m_Gr_addThing_L42 : Nat → St → Int32 → Int32 → Option (St)
  | 0, _, _, _ => none
  | n + 1, S, v2, v3 =>
    if (3 : Int32) ≤ v3 then
      some S
    else
      oi (qin ((v2 * (3 : Int32)) + v3) 240) <|
      m_Gr_addThing_L42 n (u2 S 3 ((v2 * (3 : Int32)) + v3).toNatClampNeg (-1 : Int32)) v2 (v3 + (1 : Int32))
def m_Gr_addThing (S : St) (a1 : Int32) : Option (Int32 × St) :=
  if (S 1 6) < (80 : Int32) then
    oi (qin (S 1 6) 80) <|
    oi (qin (S 1 6) 80) <|
    o1 (m_Gr_addThing_L42 200 (u2 (u2 (u2 S 1 6 ((S 1 6) + (1 : Int32))) 2 (S 1 6).toNatClampNeg a1) 5 (S 1 6).toNatClampNeg (-1 : Int32)) (S 1 6) (0 : Int32)) fun S1 =>
    some ((S 1 6), S1)
  else
    some ((-1 : Int32), S)
def m_Gr_rootAt (S : St) (a1 : Int32) : Option Int32 :=
  if a1 < (0 : Int32) then
    some (-1 : Int32)
  else
    if (6 : Int32) ≤ a1 then
      some (-1 : Int32)
    else
      oi (qin a1 6) <|
      some (S 4 a1.toNatClampNeg)
def m_Row_add (k : Nat) (S : St) (a1 : Int32) : Option St :=
  if a1 < (0 : Int32) then
    some S
  else
    if (80 : Int32) ≤ a1 then
      some S
    else
      oi (qin a1 80) <|
      if (S (k + 2) a1.toNatClampNeg) = (0 : Int32) then
        if (S k 2) < (80 : Int32) then
          oi (qin a1 80) <|
          oi (qin (S k 2) 80) <|
          some (u2 (u2 (u2 S (k + 2) a1.toNatClampNeg (1 : Int32)) (k + 1) (S k 2).toNatClampNeg a1) k 2 ((S k 2) + (1 : Int32)))
        else
          some S
      else
        some S
def m_Row_get (k : Nat) (S : St) (a1 : Int32) : Option Int32 :=
  if a1 < (0 : Int32) then
    some (-1 : Int32)
  else
    if (S k 2) ≤ a1 then
      some (-1 : Int32)
    else
      oi (qin a1 80) <|
      some (S (k + 1) a1.toNatClampNeg)
def m_Gr_fieldsOf (S : St) (a1 : Int32) : Option Int32 :=
  if a1 < (0 : Int32) then
    some (0 : Int32)
  else
    if (S 1 6) ≤ a1 then
      some (0 : Int32)
    else
      oi (qin a1 80) <|
      some (S 2 a1.toNatClampNeg)
def m_Gr_nameOf (S : St) (a1 : Int32) (a2 : Int32) : Option Int32 :=
  if a1 < (0 : Int32) then
    some (-1 : Int32)
  else
    if (S 1 6) ≤ a1 then
      some (-1 : Int32)
    else
      if a2 < (0 : Int32) then
        some (-1 : Int32)
      else
        oi (qin a1 80) <|
        if a2 < (S 2 a1.toNatClampNeg) then
          oi (qin ((a1 * (3 : Int32)) + a2) 240) <|
          some (S 3 ((a1 * (3 : Int32)) + a2).toNatClampNeg)
        else
          some (-1 : Int32)
def m_Gr_addNamedBy_L2 (q : Nat) : Nat → St → Int32 → Int32 → Option (St)
  | 0, _, _, _ => none
  | n + 1, S, v1, v3 =>
    o1 (m_Gr_fieldsOf S v1) fun r1 =>
    if r1 ≤ v3 then
      some S
    else
      o1 (m_Gr_nameOf S v1 v3) fun r2 =>
      o1 (m_Row_add q S r2) fun S1 =>
      m_Gr_addNamedBy_L2 q n S1 v1 (v3 + (1 : Int32))
def m_Gr_addNamedBy (q : Nat) (S : St) (a1 : Int32) : Option St :=
  o1 (m_Gr_addNamedBy_L2 q 200 S a1 (0 : Int32)) fun S1 =>
  some S1
def m_Gr_trace_L6 (q : Nat) : Nat → St → Int32 → Int32 → Option (St)
  | 0, _, _, _ => none
  | n + 1, S, v2, v3 =>
    if (6 : Int32) ≤ v3 then
      some S
    else
      if v3 = v2 then
        m_Gr_trace_L6 q n S v2 (v3 + (1 : Int32))
      else
        oi (qin v3 6) <|
        o1 (m_Row_add q S (S 4 v3.toNatClampNeg)) fun S1 =>
        m_Gr_trace_L6 q n S1 v2 (v3 + (1 : Int32))
def m_Gr_trace_L35 (q : Nat) : Nat → St → Int32 → Option (St)
  | 0, _, _ => none
  | n + 1, S, v3 =>
    if (S q 2) ≤ v3 then
      some S
    else
      if (80 : Int32) ≤ v3 then
        some S
      else
        o1 (m_Row_get q S v3) fun r1 =>
        o1 (m_Gr_addNamedBy q S r1) fun S1 =>
        m_Gr_trace_L35 q n S1 (v3 + (1 : Int32))
def m_Gr_trace (q : Nat) (S : St) (a2 : Int32) : Option St :=
  o1 (m_Row_empty q S) fun S1 =>
  o1 (m_Gr_trace_L6 q 200 S1 a2 (0 : Int32)) fun S2 =>
  o1 (m_Gr_trace_L35 q 200 S2 (0 : Int32)) fun S3 =>
  some S3
def m_Arr_fill_80_L5 (q : Nat) : Nat → St → Int32 → Int32 → Int32 → Option (St)
  | 0, _, _, _, _ => none
  | n + 1, S, v1, v2, v3 =>
    if v3 ≤ v2 then
      some S
    else
      oi (qin v2 80) <|
      m_Arr_fill_80_L5 q n (u2 S q v2.toNatClampNeg v1) v1 (v2 + (1 : Int32)) v3
def m_Arr_fill_80 (q : Nat) (S : St) (a1 : Int32) : Option St :=
  o1 (m_Arr_fill_80_L5 q 200 S a1 (0 : Int32) (80 : Int32)) fun S1 =>
  some S1
def m_Gr_isThing (S : St) (a1 : Int32) : Option Int32 :=
  if a1 < (0 : Int32) then
    some (0 : Int32)
  else
    if (S 1 6) ≤ a1 then
      some (0 : Int32)
    else
      some (1 : Int32)
def m_Gr_distanceOf (S : St) (a1 : Int32) : Option Int32 :=
  o1 (m_Gr_isThing S a1) fun r1 =>
  if r1 = (0 : Int32) then
    some (-1 : Int32)
  else
    oi (qin a1 80) <|
    some (S 5 a1.toNatClampNeg)
def m_Gr_measureNamedBy_L10 : Nat → St → Int32 → Int32 → Int32 → Option (St)
  | 0, _, _, _, _ => none
  | n + 1, S, v1, v2, v3 =>
    o1 (m_Gr_fieldsOf S v1) fun r1 =>
    if r1 ≤ v3 then
      some S
    else
      o1 (m_Gr_nameOf S v1 v3) fun r2 =>
      o1 (m_Gr_isThing S r2) fun r3 =>
      if r3 = (0 : Int32) then
        m_Gr_measureNamedBy_L10 n S v1 v2 (v3 + (1 : Int32))
      else
        oi (qin r2 80) <|
        if (S 5 r2.toNatClampNeg) = (-1 : Int32) then
          oi (qin r2 80) <|
          m_Gr_measureNamedBy_L10 n (u2 S 5 r2.toNatClampNeg v2) v1 v2 (v3 + (1 : Int32))
        else
          m_Gr_measureNamedBy_L10 n S v1 v2 (v3 + (1 : Int32))
def m_Gr_measureNamedBy (S : St) (a1 : Int32) : Option St :=
  o1 (m_Gr_distanceOf S a1) fun r1 =>
  o1 (m_Gr_measureNamedBy_L10 200 S a1 (r1 + (1 : Int32)) (0 : Int32)) fun S1 =>
  some S1
def m_Gr_measure_L19 : Nat → St → Int32 → Option (St)
  | 0, _, _ => none
  | n + 1, S, v1 =>
    if (6 : Int32) ≤ v1 then
      some S
    else
      oi (qin v1 6) <|
      o1 (m_Gr_isThing S (S 4 v1.toNatClampNeg)) fun r1 =>
      if r1 = (0 : Int32) then
        m_Gr_measure_L19 n S (v1 + (1 : Int32))
      else
        oi (qin v1 6) <|
        oi (qin (S 4 v1.toNatClampNeg) 80) <|
        m_Gr_measure_L19 n (u2 S 5 (S 4 v1.toNatClampNeg).toNatClampNeg (0 : Int32)) (v1 + (1 : Int32))
def m_Gr_measure_L58 : Nat → St → Int32 → Option (St)
  | 0, _, _ => none
  | n + 1, S, v1 =>
    if (S 6 2) ≤ v1 then
      some S
    else
      o1 (m_Row_get 6 S v1) fun r1 =>
      o1 (m_Gr_measureNamedBy S r1) fun S1 =>
      m_Gr_measure_L58 n S1 (v1 + (1 : Int32))
def m_Gr_measure (S : St)  : Option St :=
  o1 (m_Gr_trace 6 S (-1 : Int32)) fun S1 =>
  o1 (m_Arr_fill_80 5 S1 (-1 : Int32)) fun S2 =>
  o1 (m_Gr_measure_L19 200 S2 (0 : Int32)) fun S3 =>
  o1 (m_Gr_measure_L58 200 S3 (0 : Int32)) fun S4 =>
  some S4
def m_Gr_nameByRoot (S : St) (a1 : Int32) (a2 : Int32) : Option St :=
  if a1 < (0 : Int32) then
    some S
  else
    if (6 : Int32) ≤ a1 then
      some S
    else
      oi (qin a1 6) <|
      o1 (m_Gr_measure (u2 S 4 a1.toNatClampNeg a2)) fun S1 =>
      some S1
def m_St_has (k d : Nat) (S : St) (a1 : Int32) : Option Int32 :=
  if a1 < (0 : Int32) then
    some (0 : Int32)
  else
    if (80 : Int32) ≤ a1 then
      some (0 : Int32)
    else
      oi (qin a1 80) <|
      if (S (k + 1) a1.toNatClampNeg) = (0 : Int32) then
        some (0 : Int32)
      else
        some (1 : Int32)
def m_St_letGo (k d : Nat) (S : St) (a1 : Int32) : Option St :=
  if a1 < (0 : Int32) then
    some S
  else
    if (80 : Int32) ≤ a1 then
      some S
    else
      oi (qin a1 80) <|
      some (u2 S (k + 1) a1.toNatClampNeg (0 : Int32))
def m_Cou_lowerOnce (S : St) (a1 : Int32) : Option St :=
  o1 (m_St_has 42 1 S a1) fun r1 =>
  if r1 = (0 : Int32) then
    some S
  else
    oi (qin a1 80) <|
    oi (qin a1 80) <|
    oi (qin a1 80) <|
    if ((u2 S 46 a1.toNatClampNeg ((S 46 a1.toNatClampNeg) - (1 : Int32))) 46 a1.toNatClampNeg) ≤ (0 : Int32) then
      o1 (m_St_letGo 42 1 (u2 (u2 S 46 a1.toNatClampNeg ((S 46 a1.toNatClampNeg) - (1 : Int32))) 42 3 ((S 42 3) + (1 : Int32))) a1) fun S1 =>
      o1 (m_Row_add 49 S1 a1) fun S2 =>
      some S2
    else
      oi (qin a1 80) <|
      some (u2 (u2 (u2 S 46 a1.toNatClampNeg ((S 46 a1.toNatClampNeg) - (1 : Int32))) 42 3 ((S 42 3) + (1 : Int32))) 47 a1.toNatClampNeg (1 : Int32))
def m_Cou_lower_L43 : Nat → St → Int32 → Int32 → Option (St)
  | 0, _, _, _ => none
  | n + 1, S, v3, v4 =>
    o1 (m_Gr_fieldsOf S v3) fun r1 =>
    if r1 ≤ v4 then
      some S
    else
      o1 (m_Gr_nameOf S v3 v4) fun r2 =>
      o1 (m_Cou_lowerOnce S r2) fun S1 =>
      m_Cou_lower_L43 n S1 v3 (v4 + (1 : Int32))
def m_Cou_lower_L14 : Nat → St → Int32 → Option (St)
  | 0, _, _ => none
  | n + 1, S, v2 =>
    if (S 49 2) ≤ v2 then
      some S
    else
      if (80 : Int32) ≤ v2 then
        some S
      else
        o1 (m_Row_get 49 S v2) fun r1 =>
        o1 (m_Cou_lower_L43 200 S r1 (0 : Int32)) fun S1 =>
        m_Cou_lower_L14 n S1 (v2 + (1 : Int32))
def m_Cou_lower (S : St) (a1 : Int32) : Option St :=
  o1 (m_Row_empty 49 S) fun S1 =>
  o1 (m_Cou_lowerOnce S1 a1) fun S2 =>
  o1 (m_Cou_lower_L14 200 S2 (0 : Int32)) fun S3 =>
  some S3
def m_Cou_learnNaming (S : St) (a1 : Int32) (a2 : Int32) (a3 : Int32) : Option St :=
  o1 (m_St_has 42 1 S a3) fun r1 =>
  if r1 = (0 : Int32) then
    o1 (m_St_has 42 1 S a2) fun r2 =>
    if r2 = (0 : Int32) then
      some S
    else
      o1 (m_Cou_lower S a2) fun S1 =>
      some S1
  else
    oi (qin a3 80) <|
    oi (qin a3 80) <|
    o1 (m_St_has 42 1 (u2 (u2 S 46 a3.toNatClampNeg ((S 46 a3.toNatClampNeg) + (1 : Int32))) 42 3 ((S 42 3) + (1 : Int32))) a2) fun r3 =>
    if r3 = (0 : Int32) then
      some (u2 (u2 S 46 a3.toNatClampNeg ((S 46 a3.toNatClampNeg) + (1 : Int32))) 42 3 ((S 42 3) + (1 : Int32)))
    else
      o1 (m_Cou_lower (u2 (u2 S 46 a3.toNatClampNeg ((S 46 a3.toNatClampNeg) + (1 : Int32))) 42 3 ((S 42 3) + (1 : Int32))) a2) fun S2 =>
      some S2
def m_Mar_colourOf (S : St) (a1 : Int32) : Option Int32 :=
  o1 (m_St_has 31 1 S a1) fun r1 =>
  if r1 = (0 : Int32) then
    some (-1 : Int32)
  else
    o1 (m_Gr_isThing S a1) fun r2 =>
    if r2 = (0 : Int32) then
      some (-1 : Int32)
    else
      oi (qin a1 80) <|
      some (S 35 a1.toNatClampNeg)
def m_Mar_paint (S : St) (a1 : Int32) (a2 : Int32) : Option St :=
  o1 (m_Gr_isThing S a1) fun r1 =>
  if r1 = (0 : Int32) then
    some S
  else
    oi (qin a1 80) <|
    some (u2 S 35 a1.toNatClampNeg a2)
def m_Mar_becomeGrey (S : St) (a1 : Int32) : Option St :=
  o1 (m_Mar_colourOf S a1) fun r1 =>
  if r1 = (0 : Int32) then
    o1 (m_Mar_paint S a1 (1 : Int32)) fun S1 =>
    o1 (m_Row_add 36 S1 a1) fun S2 =>
    some S2
  else
    some S
def m_Mar_learnNaming (S : St) (a1 : Int32) (a2 : Int32) (a3 : Int32) : Option St :=
  if (S 31 10) = (0 : Int32) then
    some S
  else
    if a1 = (-1 : Int32) then
      o1 (m_Mar_becomeGrey S a3) fun S1 =>
      some S1
    else
      o1 (m_Mar_colourOf S a1) fun r1 =>
      if r1 = (2 : Int32) then
        o1 (m_Mar_becomeGrey S a3) fun S2 =>
        some S2
      else
        some S
def m_St_learnNaming_Nur (S : St) (a1 : Int32) (a2 : Int32) (a3 : Int32) : Option Unit :=
  some ()
def m_St_learnNaming_Cop (S : St) (a1 : Int32) (a2 : Int32) (a3 : Int32) : Option Unit :=
  some ()
def m_Te_tellStores (S : St) (a1 : Int32) (a2 : Int32) (a3 : Int32) : Option St :=
  if (S 12 5) = (0 : Int32) then
    o1 (m_St_learnNaming_Cop S a1 a2 a3) fun u2 =>
    if (S 18 5) = (0 : Int32) then
      o1 (m_St_learnNaming_Nur S a1 a2 a3) fun u3 =>
      if (S 31 6) = (0 : Int32) then
        o1 (m_Mar_learnNaming S a1 a2 a3) fun S11 =>
        if (S11 42 6) = (0 : Int32) then
          o1 (m_Cou_learnNaming S11 a1 a2 a3) fun S12 =>
          some S12
        else
          some S11
      else
        if (S 42 6) = (0 : Int32) then
          o1 (m_Cou_learnNaming S a1 a2 a3) fun S10 =>
          some S10
        else
          some S
    else
      if (S 31 6) = (0 : Int32) then
        o1 (m_Mar_learnNaming S a1 a2 a3) fun S8 =>
        if (S8 42 6) = (0 : Int32) then
          o1 (m_Cou_learnNaming S8 a1 a2 a3) fun S9 =>
          some S9
        else
          some S8
      else
        if (S 42 6) = (0 : Int32) then
          o1 (m_Cou_learnNaming S a1 a2 a3) fun S7 =>
          some S7
        else
          some S
  else
    if (S 18 5) = (0 : Int32) then
      o1 (m_St_learnNaming_Nur S a1 a2 a3) fun u1 =>
      if (S 31 6) = (0 : Int32) then
        o1 (m_Mar_learnNaming S a1 a2 a3) fun S5 =>
        if (S5 42 6) = (0 : Int32) then
          o1 (m_Cou_learnNaming S5 a1 a2 a3) fun S6 =>
          some S6
        else
          some S5
      else
        if (S 42 6) = (0 : Int32) then
          o1 (m_Cou_learnNaming S a1 a2 a3) fun S4 =>
          some S4
        else
          some S
    else
      if (S 31 6) = (0 : Int32) then
        o1 (m_Mar_learnNaming S a1 a2 a3) fun S2 =>
        if (S2 42 6) = (0 : Int32) then
          o1 (m_Cou_learnNaming S2 a1 a2 a3) fun S3 =>
          some S3
        else
          some S2
      else
        if (S 42 6) = (0 : Int32) then
          o1 (m_Cou_learnNaming S a1 a2 a3) fun S1 =>
          some S1
        else
          some S
def m_Te_nameByRoot (S : St) (a1 : Int32) (a2 : Int32) : Option (Int32 × St) :=
  o1 (m_Gr_rootAt S a1) fun r1 =>
  if r1 = a2 then
    some (r1, S)
  else
    o1 (m_Gr_nameByRoot S a1 a2) fun S1 =>
    o1 (m_Te_tellStores S1 (-1 : Int32) r1 a2) fun S2 =>
    some (r1, S2)
def m_St_closePause (k d : Nat) (S : St)  : Option St :=
  some (u2 S k (d + 3) (if (S k (d + 3)) < ((S k (d + 2)) - (S k (d + 6))) then ((S k (d + 2)) - (S k (d + 6))) else (S k (d + 3))))
def m_Te_closePauses (S : St)  : Option St :=
  o1 (m_St_closePause 12 0 S) fun S1 =>
  o1 (m_St_closePause 18 0 S1) fun S2 =>
  o1 (m_St_closePause 31 1 S2) fun S3 =>
  o1 (m_St_closePause 42 1 S3) fun S4 =>
  some S4
def m_Gr_wordsOf (S : St) (a1 : Int32) : Option Int32 :=
  if a1 < (0 : Int32) then
    some (0 : Int32)
  else
    if (S 1 6) ≤ a1 then
      some (0 : Int32)
    else
      oi (qin a1 80) <|
      some ((S 2 a1.toNatClampNeg) + (1 : Int32))
def m_St_placeOf (k d : Nat) (S : St) (a1 : Int32) : Option Int32 :=
  o1 (m_St_has k d S a1) fun r1 =>
  if r1 = (0 : Int32) then
    some (-1 : Int32)
  else
    oi (qin a1 80) <|
    some (S (k + 2) a1.toNatClampNeg)
def m_Sc_markTakenBy_L20 (k : Nat) : Nat → St → Int32 → Int32 → Option (St)
  | 0, _, _, _ => none
  | n + 1, S, v3, v4 =>
    if v4 < (0 : Int32) then
      some S
    else
      if v3 ≤ v4 then
        some S
      else
        if (160 : Int32) ≤ v4 then
          some S
        else
          oi (qin v4 160) <|
          m_Sc_markTakenBy_L20 k n (u2 S (k + 3) v4.toNatClampNeg (1 : Int32)) v3 (v4 + (1 : Int32))
def m_Sc_markTakenBy (k : Nat) (S : St) (a1 : Int32) : Option St :=
  o1 (m_St_placeOf k 1 S a1) fun r1 =>
  o1 (m_Gr_wordsOf S a1) fun r2 =>
  o1 (m_Sc_markTakenBy_L20 k 200 S (r1 + r2) r1) fun S1 =>
  some S1
def m_Sc_markTaken_L2 (k : Nat) : Nat → St → Int32 → Option (St)
  | 0, _, _ => none
  | n + 1, S, v1 =>
    if (160 : Int32) ≤ v1 then
      some S
    else
      oi (qin v1 160) <|
      m_Sc_markTaken_L2 k n (u2 S (k + 3) v1.toNatClampNeg (0 : Int32)) (v1 + (1 : Int32))
def m_Sc_markTaken_L24 (k : Nat) : Nat → St → Int32 → Option (St)
  | 0, _, _ => none
  | n + 1, S, v1 =>
    if (S 1 6) ≤ v1 then
      some S
    else
      o1 (m_St_has k 1 S v1) fun r1 =>
      if r1 = (0 : Int32) then
        m_Sc_markTaken_L24 k n S (v1 + (1 : Int32))
      else
        o1 (m_Sc_markTakenBy k S v1) fun S1 =>
        m_Sc_markTaken_L24 k n S1 (v1 + (1 : Int32))
def m_Sc_markTaken (k : Nat) (S : St)  : Option St :=
  o1 (m_Sc_markTaken_L2 k 200 S (0 : Int32)) fun S1 =>
  o1 (m_Sc_markTaken_L24 k 200 S1 (0 : Int32)) fun S2 =>
  some S2
def m_Sc_firstPlaceFor_L18 (k : Nat) : Nat → St → Int32 → Int32 → Int32 → Option (Int32 × St)
  | 0, _, _, _, _ => none
  | n + 1, S, v2, v3, v4 =>
    if (S k 2) ≤ v4 then
      some ((-1 : Int32), S)
    else
      if (160 : Int32) ≤ v4 then
        some ((-1 : Int32), S)
      else
        oi (qin v4 160) <|
        if (S (k + 3) v4.toNatClampNeg) = (0 : Int32) then
          if (v3 + (1 : Int32)) = v2 then
            some (((v4 - v2) + (1 : Int32)), S)
          else
            m_Sc_firstPlaceFor_L18 k n S v2 (v3 + (1 : Int32)) (v4 + (1 : Int32))
        else
          if (0 : Int32) = v2 then
            some (((v4 - v2) + (1 : Int32)), S)
          else
            m_Sc_firstPlaceFor_L18 k n S v2 (0 : Int32) (v4 + (1 : Int32))
def m_Sc_firstPlaceFor (k : Nat) (S : St) (a1 : Int32) : Option (Int32 × St) :=
  o1 (m_Gr_wordsOf S a1) fun r1 =>
  o1 (m_Sc_markTaken k S) fun S1 =>
  m_Sc_firstPlaceFor_L18 k 200 S1 r1 (0 : Int32) (0 : Int32)
def m_St_put (k d : Nat) (S : St) (a1 : Int32) (a2 : Int32) : Option St :=
  o1 (m_Gr_isThing S a1) fun r1 =>
  if r1 = (0 : Int32) then
    some S
  else
    oi (qin a1 80) <|
    oi (qin a1 80) <|
    some (u2 (u2 S (k + 1) a1.toNatClampNeg (1 : Int32)) (k + 2) a1.toNatClampNeg a2)
def m_St_breakDown_Cou (S : St)  : Option St :=
  o1 (m_St_letAllGo 42 1 (u2 S 42 6 (1 : Int32))) fun S1 =>
  o1 (m_Cou_forgetThings S1) fun S2 =>
  some S2
def m_Cou_isSuspect (S : St) (a1 : Int32) : Option Int32 :=
  o1 (m_St_has 42 1 S a1) fun r1 =>
  if r1 = (0 : Int32) then
    some (0 : Int32)
  else
    oi (qin a1 80) <|
    if (S 47 a1.toNatClampNeg) = (0 : Int32) then
      some (0 : Int32)
    else
      some (1 : Int32)
def m_Cou_countNamedInside_L32 : Nat → St → Int32 → Int32 → Option (St)
  | 0, _, _, _ => none
  | n + 1, S, v2, v3 =>
    o1 (m_Gr_fieldsOf S v2) fun r1 =>
    if r1 ≤ v3 then
      some S
    else
      o1 (m_Gr_nameOf S v2 v3) fun r2 =>
      o1 (m_Gr_isThing S r2) fun r3 =>
      if r3 = (0 : Int32) then
        m_Cou_countNamedInside_L32 n S v2 (v3 + (1 : Int32))
      else
        oi (qin r2 80) <|
        oi (qin r2 80) <|
        m_Cou_countNamedInside_L32 n (u2 S 48 r2.toNatClampNeg ((S 48 r2.toNatClampNeg) + (1 : Int32))) v2 (v3 + (1 : Int32))
def m_Cou_countNamedInside_L10 : Nat → St → Int32 → Option (St)
  | 0, _, _ => none
  | n + 1, S, v1 =>
    if (S 52 2) ≤ v1 then
      some S
    else
      o1 (m_Row_get 52 S v1) fun r1 =>
      o1 (m_Cou_countNamedInside_L32 200 S r1 (0 : Int32)) fun S1 =>
      m_Cou_countNamedInside_L10 n S1 (v1 + (1 : Int32))
def m_Cou_countNamedInside (S : St)  : Option St :=
  o1 (m_Arr_fill_80 48 S (0 : Int32)) fun S1 =>
  o1 (m_Cou_countNamedInside_L10 200 S1 (0 : Int32)) fun S2 =>
  some S2
def m_Cou_findLeftOut_L9 : Nat → St → Int32 → Option (St)
  | 0, _, _ => none
  | n + 1, S, v1 =>
    if (S 52 2) ≤ v1 then
      some S
    else
      o1 (m_Row_get 52 S v1) fun r1 =>
      o1 (m_Gr_isThing S r1) fun r2 =>
      if r2 = (0 : Int32) then
        m_Cou_findLeftOut_L9 n S (v1 + (1 : Int32))
      else
        oi (qin r1 80) <|
        oi (qin r1 80) <|
        if (S 46 r1.toNatClampNeg) ≤ (S 48 r1.toNatClampNeg) then
          m_Cou_findLeftOut_L9 n S (v1 + (1 : Int32))
        else
          o1 (m_Row_add 55 S r1) fun S1 =>
          m_Cou_findLeftOut_L9 n S1 (v1 + (1 : Int32))
def m_Cou_findLeftOut_L71 : Nat → St → Int32 → Option (St)
  | 0, _, _ => none
  | n + 1, S, v1 =>
    if (S 55 2) ≤ v1 then
      some S
    else
      if (80 : Int32) ≤ v1 then
        some S
      else
        o1 (m_Row_get 55 S v1) fun r1 =>
        o1 (m_Gr_addNamedBy 55 S r1) fun S1 =>
        m_Cou_findLeftOut_L71 n S1 (v1 + (1 : Int32))
def m_Cou_findLeftOut (S : St)  : Option St :=
  o1 (m_Row_empty 55 S) fun S1 =>
  o1 (m_Cou_findLeftOut_L9 200 S1 (0 : Int32)) fun S2 =>
  o1 (m_Cou_findLeftOut_L71 200 S2 (0 : Int32)) fun S3 =>
  some S3
def m_Cou_findRings_L9 : Nat → St → Int32 → Option (St)
  | 0, _, _ => none
  | n + 1, S, v1 =>
    if (S 1 6) ≤ v1 then
      some S
    else
      o1 (m_Cou_isSuspect S v1) fun r1 =>
      if r1 = (0 : Int32) then
        m_Cou_findRings_L9 n S (v1 + (1 : Int32))
      else
        o1 (m_Row_add 52 S v1) fun S1 =>
        m_Cou_findRings_L9 n S1 (v1 + (1 : Int32))
def m_Cou_findRings_L44 : Nat → St → Int32 → Option (St)
  | 0, _, _ => none
  | n + 1, S, v1 =>
    if (S 52 2) ≤ v1 then
      some S
    else
      if (80 : Int32) ≤ v1 then
        some S
      else
        o1 (m_Row_get 52 S v1) fun r1 =>
        o1 (m_Gr_addNamedBy 52 S r1) fun S1 =>
        m_Cou_findRings_L44 n S1 (v1 + (1 : Int32))
def m_Cou_findRings (S : St)  : Option St :=
  o1 (m_Row_empty 52 S) fun S1 =>
  o1 (m_Cou_findRings_L9 200 S1 (0 : Int32)) fun S2 =>
  o1 (m_Cou_findRings_L44 200 S2 (0 : Int32)) fun S3 =>
  o1 (m_Cou_countNamedInside S3) fun S4 =>
  o1 (m_Cou_findLeftOut S4) fun S5 =>
  some S5
def m_Row_holds (k : Nat) (S : St) (a1 : Int32) : Option Int32 :=
  if a1 < (0 : Int32) then
    some (0 : Int32)
  else
    if (80 : Int32) ≤ a1 then
      some (0 : Int32)
    else
      oi (qin a1 80) <|
      if (S (k + 2) a1.toNatClampNeg) = (0 : Int32) then
        some (0 : Int32)
      else
        some (1 : Int32)
def m_Cou_letRingGo_L7 : Nat → St → Int32 → Int32 → Option (St)
  | 0, _, _, _ => none
  | n + 1, S, v1, v2 =>
    o1 (m_Gr_fieldsOf S v1) fun r1 =>
    if r1 ≤ v2 then
      some S
    else
      o1 (m_Gr_nameOf S v1 v2) fun r2 =>
      o1 (m_St_has 42 1 S r2) fun r3 =>
      if r3 = (0 : Int32) then
        m_Cou_letRingGo_L7 n S v1 (v2 + (1 : Int32))
      else
        oi (qin r2 80) <|
        oi (qin r2 80) <|
        m_Cou_letRingGo_L7 n (u2 S 46 r2.toNatClampNeg ((S 46 r2.toNatClampNeg) - (1 : Int32))) v1 (v2 + (1 : Int32))
def m_Cou_letRingGo (S : St) (a1 : Int32) : Option St :=
  o1 (m_St_letGo 42 1 S a1) fun S1 =>
  o1 (m_Cou_letRingGo_L7 200 S1 a1 (0 : Int32)) fun S2 =>
  some S2
def m_Cou_collectNow_L38 : Nat → St → Int32 → Option (St)
  | 0, _, _ => none
  | n + 1, S, v2 =>
    if (S 52 2) ≤ v2 then
      some S
    else
      o1 (m_Row_get 52 S v2) fun r1 =>
      o1 (m_Row_holds 55 S r1) fun r2 =>
      if r2 = (0 : Int32) then
        o1 (m_Row_get 52 S v2) fun r3 =>
        o1 (m_Cou_letRingGo S r3) fun S1 =>
        m_Cou_collectNow_L38 n S1 (v2 + (1 : Int32))
      else
        m_Cou_collectNow_L38 n S (v2 + (1 : Int32))
def m_Cou_collectNow_L87 : Nat → St → Int32 → Option (St)
  | 0, _, _ => none
  | n + 1, S, v2 =>
    if (80 : Int32) ≤ v2 then
      some S
    else
      oi (qin v2 80) <|
      m_Cou_collectNow_L87 n (u2 S 47 v2.toNatClampNeg (0 : Int32)) (v2 + (1 : Int32))
def m_Cou_collectNow (S : St)  : Option (Int32 × St) :=
  o1 (m_Cou_findRings S) fun S1 =>
  o1 (m_Cou_collectNow_L38 200 (u2 S1 42 3 ((S1 42 3) + (S1 52 2))) (0 : Int32)) fun S2 =>
  o1 (m_Cou_collectNow_L87 200 S2 (0 : Int32)) fun S3 =>
  some (((S1 52 2) - (S1 55 2)), (u2 (u2 S3 42 10 ((S3 42 10) + ((S1 52 2) - (S1 55 2)))) 42 5 ((S3 42 5) + (1 : Int32))))
def m_Cou_placeNew (S : St) (a1 : Int32) : Option St :=
  ob (m_Sc_firstPlaceFor 42 S a1) fun r1 S1 =>
  if r1 = (-1 : Int32) then
    ob (m_Cou_collectNow S1) fun r3 S4 =>
    ob (m_Sc_firstPlaceFor 42 S4 a1) fun r4 S5 =>
    if r4 = (-1 : Int32) then
      o1 (m_St_breakDown_Cou S5) fun S7 =>
      some S7
    else
      o1 (m_St_put 42 1 S5 a1 r4) fun S6 =>
      o1 (m_Gr_isThing S6 a1) fun r5 =>
      if r5 = (0 : Int32) then
        some S6
      else
        oi (qin a1 80) <|
        oi (qin a1 80) <|
        some (u2 (u2 S6 46 a1.toNatClampNeg (0 : Int32)) 47 a1.toNatClampNeg (0 : Int32))
  else
    if r1 = (-1 : Int32) then
      o1 (m_St_breakDown_Cou S1) fun S3 =>
      some S3
    else
      o1 (m_St_put 42 1 S1 a1 r1) fun S2 =>
      o1 (m_Gr_isThing S2 a1) fun r2 =>
      if r2 = (0 : Int32) then
        some S2
      else
        oi (qin a1 80) <|
        oi (qin a1 80) <|
        some (u2 (u2 S2 46 a1.toNatClampNeg (0 : Int32)) 47 a1.toNatClampNeg (0 : Int32))
def m_St_countHad_L4 (k d : Nat) : Nat → St → Int32 → Int32 → Option (Int32)
  | 0, _, _, _ => none
  | n + 1, S, v1, v2 =>
    if (S 1 6) ≤ v2 then
      some v1
    else
      o1 (m_St_has k d S v2) fun r1 =>
      if r1 = (0 : Int32) then
        m_St_countHad_L4 k d n S (v1 + (0 : Int32)) (v2 + (1 : Int32))
      else
        m_St_countHad_L4 k d n S (v1 + (1 : Int32)) (v2 + (1 : Int32))
def m_St_countHad (k d : Nat) (S : St)  : Option Int32 :=
  o1 (m_St_countHad_L4 k d 200 S (0 : Int32) (0 : Int32)) fun y1 =>
  some y1
def m_Mar_sweep_L15 : Nat → St → Int32 → Option (St)
  | 0, _, _ => none
  | n + 1, S, v1 =>
    if (S 1 6) ≤ v1 then
      some S
    else
      o1 (m_Mar_colourOf S v1) fun r1 =>
      if r1 = (0 : Int32) then
        o1 (m_St_letGo 31 1 S v1) fun S2 =>
        o1 (m_Mar_paint S2 v1 (0 : Int32)) fun S3 =>
        m_Mar_sweep_L15 n S3 (v1 + (1 : Int32))
      else
        o1 (m_Mar_paint S v1 (0 : Int32)) fun S1 =>
        m_Mar_sweep_L15 n S1 (v1 + (1 : Int32))
def m_Mar_sweep (S : St)  : Option St :=
  o1 (m_St_countHad 31 1 S) fun r1 =>
  o1 (m_Mar_sweep_L15 200 (u2 S 31 3 ((S 31 3) + r1)) (0 : Int32)) fun S1 =>
  some (u2 (u2 S1 31 10 (0 : Int32)) 31 5 ((S1 31 5) + (1 : Int32)))
def m_Mar_step_L49 : Nat → St → Int32 → Int32 → Option (St)
  | 0, _, _, _ => none
  | n + 1, S, v1, v2 =>
    o1 (m_Gr_fieldsOf S v1) fun r1 =>
    if r1 ≤ v2 then
      some S
    else
      o1 (m_Gr_nameOf S v1 v2) fun r2 =>
      o1 (m_Mar_becomeGrey S r2) fun S1 =>
      m_Mar_step_L49 n S1 v1 (v2 + (1 : Int32))
def m_Mar_step (S : St)  : Option St :=
  if (S 31 14) < (S 36 2) then
    o1 (m_Row_get 36 S (S 31 14)) fun r1 =>
    o1 (m_Mar_paint (u2 S 31 14 ((S 31 14) + (1 : Int32))) r1 (2 : Int32)) fun S1 =>
    o1 (m_Mar_step_L49 200 S1 r1 (0 : Int32)) fun S2 =>
    o1 (m_Gr_wordsOf S2 r1) fun r2 =>
    some (u2 S2 31 3 ((S2 31 3) + r2))
  else
    o1 (m_Mar_sweep S) fun S3 =>
    some S3
def m_St_wordsHad_L4 (k d : Nat) : Nat → St → Int32 → Int32 → Option (Int32)
  | 0, _, _, _ => none
  | n + 1, S, v1, v2 =>
    if (S 1 6) ≤ v2 then
      some v1
    else
      o1 (m_St_has k d S v2) fun r1 =>
      if r1 = (0 : Int32) then
        m_St_wordsHad_L4 k d n S (v1 + (0 : Int32)) (v2 + (1 : Int32))
      else
        o1 (m_Gr_wordsOf S v2) fun r2 =>
        m_St_wordsHad_L4 k d n S (v1 + r2) (v2 + (1 : Int32))
def m_St_wordsHad (k d : Nat) (S : St)  : Option Int32 :=
  o1 (m_St_wordsHad_L4 k d 200 S (0 : Int32) (0 : Int32)) fun y1 =>
  some y1
def m_Mar_beginToMark_L19 : Nat → St → Int32 → Option (St)
  | 0, _, _ => none
  | n + 1, S, v1 =>
    if (6 : Int32) ≤ v1 then
      some S
    else
      o1 (m_Gr_rootAt S v1) fun r1 =>
      o1 (m_Mar_becomeGrey S r1) fun S1 =>
      m_Mar_beginToMark_L19 n S1 (v1 + (1 : Int32))
def m_Mar_beginToMark (S : St)  : Option St :=
  o1 (m_Row_empty 36 (u2 S 31 10 (1 : Int32))) fun S1 =>
  o1 (m_Mar_beginToMark_L19 200 (u2 S1 31 14 (0 : Int32)) (0 : Int32)) fun S2 =>
  some S2
def m_Mar_workAheadOfPlacing_L32 : Nat → St → Int32 → Option (St)
  | 0, _, _ => none
  | n + 1, S, v1 =>
    if (S 31 10) = (0 : Int32) then
      some S
    else
      if (2 : Int32) ≤ v1 then
        some S
      else
        o1 (m_Mar_step S) fun S1 =>
        m_Mar_workAheadOfPlacing_L32 n S1 (v1 + (1 : Int32))
def m_Mar_workAheadOfPlacing (S : St)  : Option St :=
  if (S 31 10) = (0 : Int32) then
    o1 (m_St_wordsHad 31 1 S) fun r1 =>
    if ((S 31 2) / (2 : Int32)) ≤ ((S 31 2) - r1) then
      some S
    else
      o1 (m_Mar_beginToMark S) fun S2 =>
      some S2
  else
    o1 (m_Mar_workAheadOfPlacing_L32 200 S (0 : Int32)) fun S1 =>
    some S1
def m_St_breakDown_Mar (S : St)  : Option St :=
  o1 (m_St_letAllGo 31 1 (u2 S 31 6 (1 : Int32))) fun S1 =>
  o1 (m_Mar_forgetThings S1) fun S2 =>
  some S2
def m_Mar_collectNow_L18 : Nat → St → Int32 → Option (St)
  | 0, _, _ => none
  | n + 1, S, v2 =>
    if (S 31 10) = (0 : Int32) then
      some S
    else
      if (80 : Int32) < v2 then
        some S
      else
        o1 (m_Mar_step S) fun S1 =>
        m_Mar_collectNow_L18 n S1 (v2 + (1 : Int32))
def m_Mar_collectNow (S : St)  : Option (Int32 × St) :=
  o1 (m_St_countHad 31 1 S) fun r1 =>
  if (S 31 10) = (0 : Int32) then
    o1 (m_Mar_beginToMark S) fun S2 =>
    o1 (m_Mar_collectNow_L18 200 S2 (0 : Int32)) fun S3 =>
    o1 (m_St_countHad 31 1 S3) fun r3 =>
    some ((r1 - r3), S3)
  else
    o1 (m_Mar_collectNow_L18 200 S (0 : Int32)) fun S1 =>
    o1 (m_St_countHad 31 1 S1) fun r2 =>
    some ((r1 - r2), S1)
def m_Mar_placeNew (S : St) (a1 : Int32) : Option St :=
  o1 (m_Mar_workAheadOfPlacing S) fun S1 =>
  ob (m_Sc_firstPlaceFor 31 S1 a1) fun r1 S2 =>
  if r1 = (-1 : Int32) then
    ob (m_Mar_collectNow S2) fun r4 S13 =>
    ob (m_Sc_firstPlaceFor 31 S13 a1) fun r5 S14 =>
    if r5 = (-1 : Int32) then
      ob (m_Mar_collectNow S14) fun r6 S19 =>
      ob (m_Sc_firstPlaceFor 31 S19 a1) fun r7 S20 =>
      if r7 = (-1 : Int32) then
        o1 (m_St_breakDown_Mar S20) fun S24 =>
        some S24
      else
        o1 (m_St_put 31 1 S20 a1 r7) fun S21 =>
        if (S21 31 10) = (0 : Int32) then
          o1 (m_Mar_paint S21 a1 (0 : Int32)) fun S22 =>
          some S22
        else
          o1 (m_Mar_paint S21 a1 (2 : Int32)) fun S23 =>
          some S23
    else
      if r5 = (-1 : Int32) then
        o1 (m_St_breakDown_Mar S14) fun S18 =>
        some S18
      else
        o1 (m_St_put 31 1 S14 a1 r5) fun S15 =>
        if (S15 31 10) = (0 : Int32) then
          o1 (m_Mar_paint S15 a1 (0 : Int32)) fun S16 =>
          some S16
        else
          o1 (m_Mar_paint S15 a1 (2 : Int32)) fun S17 =>
          some S17
  else
    if r1 = (-1 : Int32) then
      ob (m_Mar_collectNow S2) fun r2 S7 =>
      ob (m_Sc_firstPlaceFor 31 S7 a1) fun r3 S8 =>
      if r3 = (-1 : Int32) then
        o1 (m_St_breakDown_Mar S8) fun S12 =>
        some S12
      else
        o1 (m_St_put 31 1 S8 a1 r3) fun S9 =>
        if (S9 31 10) = (0 : Int32) then
          o1 (m_Mar_paint S9 a1 (0 : Int32)) fun S10 =>
          some S10
        else
          o1 (m_Mar_paint S9 a1 (2 : Int32)) fun S11 =>
          some S11
    else
      if r1 = (-1 : Int32) then
        o1 (m_St_breakDown_Mar S2) fun S6 =>
        some S6
      else
        o1 (m_St_put 31 1 S2 a1 r1) fun S3 =>
        if (S3 31 10) = (0 : Int32) then
          o1 (m_Mar_paint S3 a1 (0 : Int32)) fun S4 =>
          some S4
        else
          o1 (m_Mar_paint S3 a1 (2 : Int32)) fun S5 =>
          some S5
def m_Nur_freeTogether (S : St)  : Option Int32 :=
  some (((S 18 1) / (4 : Int32)) - (S 18 15))
def m_Nur_putYoung (S : St) (a1 : Int32) (a2 : Int32) : Option St :=
  o1 (m_Gr_isThing S a1) fun r1 =>
  if r1 = (0 : Int32) then
    some S
  else
    oi (qin a1 80) <|
    o1 (m_Row_add 21 (u2 S 30 a1.toNatClampNeg (vp_nar .boolean a2)) a1) fun S1 =>
    o1 (m_St_put 18 0 S1 a1 (S1 18 15)) fun S2 =>
    o1 (m_Gr_wordsOf S2 a1) fun r2 =>
    some (u2 S2 18 15 ((S2 18 15) + r2))
def m_Gr_isReached (S : St) (a1 : Int32) : Option Int32 :=
  if a1 < (0 : Int32) then
    some (0 : Int32)
  else
    if (S 1 6) ≤ a1 then
      some (0 : Int32)
    else
      oi (qin a1 80) <|
      if (S 5 a1.toNatClampNeg) = (-1 : Int32) then
        some (0 : Int32)
      else
        some (1 : Int32)
def m_St_wordsReached_L4 (k d : Nat) : Nat → St → Int32 → Int32 → Option (Int32)
  | 0, _, _, _ => none
  | n + 1, S, v1, v2 =>
    if (S 1 6) ≤ v2 then
      some v1
    else
      o1 (m_St_has k d S v2) fun r1 =>
      if r1 = (0 : Int32) then
        m_St_wordsReached_L4 k d n S (v1 + (0 : Int32)) (v2 + (1 : Int32))
      else
        o1 (m_Gr_isReached S v2) fun r2 =>
        if r2 = (0 : Int32) then
          m_St_wordsReached_L4 k d n S (v1 + (0 : Int32)) (v2 + (1 : Int32))
        else
          o1 (m_Gr_wordsOf S v2) fun r3 =>
          m_St_wordsReached_L4 k d n S (v1 + r3) (v2 + (1 : Int32))
def m_St_wordsReached (k d : Nat) (S : St)  : Option Int32 :=
  o1 (m_St_wordsReached_L4 k d 200 S (0 : Int32) (0 : Int32)) fun y1 =>
  some y1
def m_Nur_greatFits (S : St)  : Option Int32 :=
  o1 (m_St_wordsReached 18 0 S) fun r1 =>
  if ((S 18 1) - ((S 18 1) / (4 : Int32))) < r1 then
    some (0 : Int32)
  else
    some (1 : Int32)
def m_Nur_addReached_L2 (q : Nat) : Nat → St → Int32 → Option (St)
  | 0, _, _ => none
  | n + 1, S, v2 =>
    if (S q 2) ≤ v2 then
      some S
    else
      o1 (m_Row_get q S v2) fun r1 =>
      o1 (m_Gr_isReached S r1) fun r2 =>
      if r2 = (0 : Int32) then
        m_Nur_addReached_L2 q n S (v2 + (1 : Int32))
      else
        o1 (m_Row_get q S v2) fun r3 =>
        o1 (m_Row_add 27 S r3) fun S1 =>
        m_Nur_addReached_L2 q n S1 (v2 + (1 : Int32))
def m_Nur_addReached (q : Nat) (S : St)  : Option St :=
  o1 (m_Nur_addReached_L2 q 200 S (0 : Int32)) fun S1 =>
  some S1
def m_Nur_findReached (S : St)  : Option St :=
  o1 (m_Row_empty 27 S) fun S1 =>
  o1 (m_Nur_addReached 24 S1) fun S2 =>
  o1 (m_Nur_addReached 21 S2) fun S3 =>
  some S3
def m_Nur_putOld (S : St) (a1 : Int32) : Option St :=
  o1 (m_Row_add 24 S a1) fun S1 =>
  o1 (m_St_put 18 0 S1 a1 (S1 18 16)) fun S2 =>
  o1 (m_Gr_wordsOf S2 a1) fun r1 =>
  some (u2 S2 18 16 ((S2 18 16) + r1))
def m_St_breakDown_Nur (S : St)  : Option St :=
  o1 (m_St_letAllGo 18 0 (u2 S 18 5 (1 : Int32))) fun S1 =>
  o1 (m_Nur_forgetThings S1) fun S2 =>
  some S2
def m_Nur_collectNow_L32 : Nat → St → Int32 → Option (St)
  | 0, _, _ => none
  | n + 1, S, v2 =>
    if (S 27 2) ≤ v2 then
      some S
    else
      o1 (m_Row_get 27 S v2) fun r1 =>
      o1 (m_Nur_putOld S r1) fun S1 =>
      o1 (m_Row_get 27 S1 v2) fun r2 =>
      o1 (m_Gr_wordsOf S1 r2) fun r3 =>
      m_Nur_collectNow_L32 n (u2 S1 18 2 ((S1 18 2) + r3)) (v2 + (1 : Int32))
def m_Nur_collectNow (S : St)  : Option (Int32 × St) :=
  o1 (m_Nur_greatFits S) fun r1 =>
  if r1 = (0 : Int32) then
    o1 (m_St_breakDown_Nur S) fun S5 =>
    some ((0 : Int32), S5)
  else
    o1 (m_St_countHad 18 0 S) fun r2 =>
    o1 (m_Nur_findReached S) fun S1 =>
    o1 (m_St_letAllGo 18 0 S1) fun S2 =>
    o1 (m_Nur_forgetThings S2) fun S3 =>
    o1 (m_Nur_collectNow_L32 200 S3 (0 : Int32)) fun S4 =>
    some ((r2 - (S4 27 2)), (u2 S4 18 4 ((S4 18 4) + (1 : Int32))))
def m_Nur_isGrown (S : St) (a1 : Int32) : Option Int32 :=
  o1 (m_Gr_isThing S a1) fun r1 =>
  if r1 = (0 : Int32) then
    some (0 : Int32)
  else
    oi (qin a1 80) <|
    if (S 30 a1.toNatClampNeg) = (0 : Int32) then
      some (0 : Int32)
    else
      some (1 : Int32)
def m_Nur_wordsGrown_L4 : Nat → St → Int32 → Int32 → Option (Int32)
  | 0, _, _, _ => none
  | n + 1, S, v1, v2 =>
    if (S 21 2) ≤ v2 then
      some v1
    else
      o1 (m_Row_get 21 S v2) fun r1 =>
      o1 (m_Nur_isGrown S r1) fun r2 =>
      if r2 = (0 : Int32) then
        m_Nur_wordsGrown_L4 n S (v1 + (0 : Int32)) (v2 + (1 : Int32))
      else
        o1 (m_Row_get 21 S v2) fun r3 =>
        o1 (m_Gr_wordsOf S r3) fun r4 =>
        m_Nur_wordsGrown_L4 n S (v1 + r4) (v2 + (1 : Int32))
def m_Nur_wordsGrown (S : St)  : Option Int32 :=
  o1 (m_Nur_wordsGrown_L4 200 S (0 : Int32) (0 : Int32)) fun y1 =>
  some y1
def m_Nur_addYoung (S : St) (a1 : Int32) : Option St :=
  o1 (m_Row_holds 21 S a1) fun r1 =>
  if r1 = (0 : Int32) then
    some S
  else
    o1 (m_Row_add 27 S a1) fun S1 =>
    some S1
def m_Nur_addYoungNamedBy_L2 : Nat → St → Int32 → Int32 → Option (St)
  | 0, _, _, _ => none
  | n + 1, S, v1, v2 =>
    o1 (m_Gr_fieldsOf S v1) fun r1 =>
    if r1 ≤ v2 then
      some S
    else
      o1 (m_Gr_nameOf S v1 v2) fun r2 =>
      o1 (m_Nur_addYoung S r2) fun S1 =>
      m_Nur_addYoungNamedBy_L2 n S1 v1 (v2 + (1 : Int32))
def m_Nur_addYoungNamedBy (S : St) (a1 : Int32) : Option St :=
  o1 (m_Nur_addYoungNamedBy_L2 200 S a1 (0 : Int32)) fun S1 =>
  some S1
def m_Nur_findYoung_L9 : Nat → St → Int32 → Option (St)
  | 0, _, _ => none
  | n + 1, S, v1 =>
    if (6 : Int32) ≤ v1 then
      some S
    else
      o1 (m_Gr_rootAt S v1) fun r1 =>
      o1 (m_Nur_addYoung S r1) fun S1 =>
      m_Nur_findYoung_L9 n S1 (v1 + (1 : Int32))
def m_Nur_findYoung_L35 : Nat → St → Int32 → Option (St)
  | 0, _, _ => none
  | n + 1, S, v1 =>
    if (S 1 6) ≤ v1 then
      some S
    else
      o1 (m_Row_holds 24 S v1) fun r1 =>
      if r1 = (0 : Int32) then
        m_Nur_findYoung_L35 n S (v1 + (1 : Int32))
      else
        o1 (m_Nur_addYoungNamedBy S v1) fun S1 =>
        m_Nur_findYoung_L35 n S1 (v1 + (1 : Int32))
def m_Nur_findYoung_L70 : Nat → St → Int32 → Option (St)
  | 0, _, _ => none
  | n + 1, S, v1 =>
    if (S 27 2) ≤ v1 then
      some S
    else
      if (80 : Int32) ≤ v1 then
        some S
      else
        o1 (m_Row_get 27 S v1) fun r1 =>
        o1 (m_Nur_addYoungNamedBy S r1) fun S1 =>
        m_Nur_findYoung_L70 n S1 (v1 + (1 : Int32))
def m_Nur_findYoung (S : St)  : Option St :=
  o1 (m_Row_empty 27 S) fun S1 =>
  o1 (m_Nur_findYoung_L9 200 S1 (0 : Int32)) fun S2 =>
  o1 (m_Nur_findYoung_L35 200 S2 (0 : Int32)) fun S3 =>
  o1 (m_Nur_findYoung_L70 200 S3 (0 : Int32)) fun S4 =>
  some S4
def m_Nur_moveFound (S : St) (a1 : Int32) : Option St :=
  o1 (m_Gr_wordsOf S a1) fun r1 =>
  o1 (m_Nur_isGrown S a1) fun r2 =>
  if r2 = (0 : Int32) then
    o1 (m_Nur_putYoung S a1 (1 : Int32)) fun S1 =>
    some (u2 S1 18 2 ((S1 18 2) + r1))
  else
    o1 (m_Nur_putOld S a1) fun S2 =>
    some (u2 (u2 S2 18 10 ((S2 18 10) + r1)) 18 2 ((S2 18 2) + r1))
def m_Nur_cleanUpYoung_L44 : Nat → St → Int32 → Option (St)
  | 0, _, _ => none
  | n + 1, S, v2 =>
    if (S 21 2) ≤ v2 then
      some S
    else
      o1 (m_Row_get 21 S v2) fun r1 =>
      o1 (m_St_letGo 18 0 S r1) fun S1 =>
      m_Nur_cleanUpYoung_L44 n S1 (v2 + (1 : Int32))
def m_Nur_cleanUpYoung_L87 : Nat → St → Int32 → Option (St)
  | 0, _, _ => none
  | n + 1, S, v2 =>
    if (S 27 2) ≤ v2 then
      some S
    else
      o1 (m_Row_get 27 S v2) fun r1 =>
      o1 (m_Nur_moveFound S r1) fun S1 =>
      m_Nur_cleanUpYoung_L87 n S1 (v2 + (1 : Int32))
def m_Nur_cleanUpYoung (S : St)  : Option (Int32 × St) :=
  if (S 18 5) = (0 : Int32) then
    o1 (m_Nur_wordsGrown S) fun r1 =>
    if r1 ≤ ((S 18 1) - (S 18 16)) then
      o1 (m_Nur_findYoung S) fun S1 =>
      o1 (m_Nur_cleanUpYoung_L44 200 S1 (0 : Int32)) fun S2 =>
      o1 (m_Row_empty 21 S2) fun S3 =>
      o1 (m_Nur_cleanUpYoung_L87 200 (u2 S3 18 15 (0 : Int32)) (0 : Int32)) fun S4 =>
      some (((S 21 2) - (S4 27 2)), (u2 S4 18 9 ((S4 18 9) + (1 : Int32))))
    else
      ob (m_Nur_collectNow S) fun r2 S5 =>
      some (r2, S5)
  else
    some ((0 : Int32), S)
def m_Nur_placeNew (S : St) (a1 : Int32) : Option St :=
  o1 (m_Gr_wordsOf S a1) fun r1 =>
  o1 (m_Nur_freeTogether S) fun r2 =>
  if r1 ≤ r2 then
    if (S 18 5) = (0 : Int32) then
      o1 (m_Nur_freeTogether S) fun r3 =>
      if r1 ≤ r3 then
        if (S 18 5) = (0 : Int32) then
          o1 (m_Nur_putYoung S a1 (0 : Int32)) fun S2 =>
          some S2
        else
          some S
      else
        ob (m_Nur_collectNow S) fun r4 S3 =>
        if (S3 18 5) = (0 : Int32) then
          o1 (m_Nur_putYoung S3 a1 (0 : Int32)) fun S4 =>
          some S4
        else
          some S3
    else
      if (S 18 5) = (0 : Int32) then
        o1 (m_Nur_putYoung S a1 (0 : Int32)) fun S1 =>
        some S1
      else
        some S
  else
    ob (m_Nur_cleanUpYoung S) fun r5 S5 =>
    if (S5 18 5) = (0 : Int32) then
      o1 (m_Nur_freeTogether S5) fun r6 =>
      if r1 ≤ r6 then
        if (S5 18 5) = (0 : Int32) then
          o1 (m_Nur_putYoung S5 a1 (0 : Int32)) fun S7 =>
          some S7
        else
          some S5
      else
        ob (m_Nur_collectNow S5) fun r7 S8 =>
        if (S8 18 5) = (0 : Int32) then
          o1 (m_Nur_putYoung S8 a1 (0 : Int32)) fun S9 =>
          some S9
        else
          some S8
    else
      if (S5 18 5) = (0 : Int32) then
        o1 (m_Nur_putYoung S5 a1 (0 : Int32)) fun S6 =>
        some S6
      else
        some S5
def m_Cop_freeTogether (S : St)  : Option Int32 :=
  some (((S 12 1) / (2 : Int32)) - (S 12 11))
def m_Cop_putBehind (S : St) (a1 : Int32) : Option St :=
  if (S 12 10) = (0 : Int32) then
    o1 (m_St_put 12 0 S a1 ((0 : Int32) + (S 12 11))) fun S1 =>
    o1 (m_Gr_wordsOf S1 a1) fun r1 =>
    some (u2 S1 12 11 ((S1 12 11) + r1))
  else
    o1 (m_St_put 12 0 S a1 (((S 12 1) / (2 : Int32)) + (S 12 11))) fun S2 =>
    o1 (m_Gr_wordsOf S2 a1) fun r2 =>
    some (u2 S2 12 11 ((S2 12 11) + r2))
def m_St_breakDown_Cop (S : St)  : Option St :=
  o1 (m_St_letAllGo 12 0 (u2 S 12 5 (1 : Int32))) fun S1 =>
  o1 (m_Cop_forgetThings S1) fun S2 =>
  some S2
def m_Cop_collectNow_L44 : Nat → St → Int32 → Option (St)
  | 0, _, _ => none
  | n + 1, S, v2 =>
    if (S 15 2) ≤ v2 then
      some S
    else
      o1 (m_Row_get 15 S v2) fun r1 =>
      o1 (m_Cop_putBehind S r1) fun S1 =>
      m_Cop_collectNow_L44 n S1 (v2 + (1 : Int32))
def m_Cop_collectNow (S : St)  : Option (Int32 × St) :=
  o1 (m_St_countHad 12 0 S) fun r1 =>
  o1 (m_Gr_trace 15 S (-1 : Int32)) fun S1 =>
  o1 (m_St_letAllGo 12 0 S1) fun S2 =>
  if (S2 12 10) = (0 : Int32) then
    o1 (m_Cop_collectNow_L44 200 (u2 (u2 S2 12 10 (1 : Int32)) 12 11 (0 : Int32)) (0 : Int32)) fun S4 =>
    some ((r1 - (S4 15 2)), (u2 (u2 S4 12 2 ((S4 12 2) + (S4 12 11))) 12 4 ((S4 12 4) + (1 : Int32))))
  else
    o1 (m_Cop_collectNow_L44 200 (u2 (u2 S2 12 10 (0 : Int32)) 12 11 (0 : Int32)) (0 : Int32)) fun S3 =>
    some ((r1 - (S3 15 2)), (u2 (u2 S3 12 2 ((S3 12 2) + (S3 12 11))) 12 4 ((S3 12 4) + (1 : Int32))))
def m_Cop_placeNew (S : St) (a1 : Int32) : Option St :=
  o1 (m_Gr_wordsOf S a1) fun r1 =>
  o1 (m_Cop_freeTogether S) fun r2 =>
  if r1 ≤ r2 then
    o1 (m_Cop_freeTogether S) fun r3 =>
    if r1 ≤ r3 then
      o1 (m_Cop_putBehind S a1) fun S1 =>
      some S1
    else
      o1 (m_St_breakDown_Cop S) fun S2 =>
      some S2
  else
    ob (m_Cop_collectNow S) fun r4 S3 =>
    o1 (m_Cop_freeTogether S3) fun r5 =>
    if r1 ≤ r5 then
      o1 (m_Cop_putBehind S3 a1) fun S4 =>
      some S4
    else
      o1 (m_St_breakDown_Cop S3) fun S5 =>
      some S5
def m_Te_make (S : St) (a1 : Int32) (a2 : Int32) : Option (Int32 × St) :=
  if a1 < (0 : Int32) then
    none
  else
    if a1 ≤ (3 : Int32) then
      o1 (m_Te_checkRoot S a2) fun u1 =>
      if (S 1 6) < (80 : Int32) then
        o1 (m_Te_openPauses S) fun S1 =>
        ob (m_Gr_addThing S1 a1) fun r1 S2 =>
        if (S2 12 5) = (0 : Int32) then
          o1 (m_Cop_placeNew S2 r1) fun S26 =>
          if (S26 18 5) = (0 : Int32) then
            o1 (m_Nur_placeNew S26 r1) fun S38 =>
            if (S38 31 6) = (0 : Int32) then
              o1 (m_Mar_placeNew S38 r1) fun S44 =>
              if (S44 42 6) = (0 : Int32) then
                o1 (m_Cou_placeNew S44 r1) fun S47 =>
                ob (m_Te_nameByRoot S47 a2 r1) fun r17 S48 =>
                o1 (m_Te_closePauses S48) fun S49 =>
                some (r1, S49)
              else
                ob (m_Te_nameByRoot S44 a2 r1) fun r16 S45 =>
                o1 (m_Te_closePauses S45) fun S46 =>
                some (r1, S46)
            else
              if (S38 42 6) = (0 : Int32) then
                o1 (m_Cou_placeNew S38 r1) fun S41 =>
                ob (m_Te_nameByRoot S41 a2 r1) fun r15 S42 =>
                o1 (m_Te_closePauses S42) fun S43 =>
                some (r1, S43)
              else
                ob (m_Te_nameByRoot S38 a2 r1) fun r14 S39 =>
                o1 (m_Te_closePauses S39) fun S40 =>
                some (r1, S40)
          else
            if (S26 31 6) = (0 : Int32) then
              o1 (m_Mar_placeNew S26 r1) fun S32 =>
              if (S32 42 6) = (0 : Int32) then
                o1 (m_Cou_placeNew S32 r1) fun S35 =>
                ob (m_Te_nameByRoot S35 a2 r1) fun r13 S36 =>
                o1 (m_Te_closePauses S36) fun S37 =>
                some (r1, S37)
              else
                ob (m_Te_nameByRoot S32 a2 r1) fun r12 S33 =>
                o1 (m_Te_closePauses S33) fun S34 =>
                some (r1, S34)
            else
              if (S26 42 6) = (0 : Int32) then
                o1 (m_Cou_placeNew S26 r1) fun S29 =>
                ob (m_Te_nameByRoot S29 a2 r1) fun r11 S30 =>
                o1 (m_Te_closePauses S30) fun S31 =>
                some (r1, S31)
              else
                ob (m_Te_nameByRoot S26 a2 r1) fun r10 S27 =>
                o1 (m_Te_closePauses S27) fun S28 =>
                some (r1, S28)
        else
          if (S2 18 5) = (0 : Int32) then
            o1 (m_Nur_placeNew S2 r1) fun S14 =>
            if (S14 31 6) = (0 : Int32) then
              o1 (m_Mar_placeNew S14 r1) fun S20 =>
              if (S20 42 6) = (0 : Int32) then
                o1 (m_Cou_placeNew S20 r1) fun S23 =>
                ob (m_Te_nameByRoot S23 a2 r1) fun r9 S24 =>
                o1 (m_Te_closePauses S24) fun S25 =>
                some (r1, S25)
              else
                ob (m_Te_nameByRoot S20 a2 r1) fun r8 S21 =>
                o1 (m_Te_closePauses S21) fun S22 =>
                some (r1, S22)
            else
              if (S14 42 6) = (0 : Int32) then
                o1 (m_Cou_placeNew S14 r1) fun S17 =>
                ob (m_Te_nameByRoot S17 a2 r1) fun r7 S18 =>
                o1 (m_Te_closePauses S18) fun S19 =>
                some (r1, S19)
              else
                ob (m_Te_nameByRoot S14 a2 r1) fun r6 S15 =>
                o1 (m_Te_closePauses S15) fun S16 =>
                some (r1, S16)
          else
            if (S2 31 6) = (0 : Int32) then
              o1 (m_Mar_placeNew S2 r1) fun S8 =>
              if (S8 42 6) = (0 : Int32) then
                o1 (m_Cou_placeNew S8 r1) fun S11 =>
                ob (m_Te_nameByRoot S11 a2 r1) fun r5 S12 =>
                o1 (m_Te_closePauses S12) fun S13 =>
                some (r1, S13)
              else
                ob (m_Te_nameByRoot S8 a2 r1) fun r4 S9 =>
                o1 (m_Te_closePauses S9) fun S10 =>
                some (r1, S10)
            else
              if (S2 42 6) = (0 : Int32) then
                o1 (m_Cou_placeNew S2 r1) fun S5 =>
                ob (m_Te_nameByRoot S5 a2 r1) fun r3 S6 =>
                o1 (m_Te_closePauses S6) fun S7 =>
                some (r1, S7)
              else
                ob (m_Te_nameByRoot S2 a2 r1) fun r2 S3 =>
                o1 (m_Te_closePauses S3) fun S4 =>
                some (r1, S4)
      else
        none
    else
      none
def m_Te_checkNameable (S : St) (a1 : Int32) : Option Unit :=
  if a1 = (-1 : Int32) then
    some ()
  else
    o1 (m_Gr_isReached S a1) fun r1 =>
    if r1 = (0 : Int32) then
      none
    else
      some ()
def m_Te_root (S : St) (a1 : Int32) (a2 : Int32) : Option (Int32 × St) :=
  o1 (m_Te_checkRoot S a1) fun u1 =>
  o1 (m_Te_checkNameable S a2) fun u2 =>
  o1 (m_Te_openPauses S) fun S1 =>
  ob (m_Te_nameByRoot S1 a1 a2) fun r1 S2 =>
  o1 (m_Te_closePauses S2) fun S3 =>
  some (r1, S3)
def m_Te_checkThing (S : St) (a1 : Int32) : Option Unit :=
  o1 (m_Gr_isThing S a1) fun r1 =>
  if r1 = (0 : Int32) then
    none
  else
    some ()
def m_Te_checkWhat (S : St) (a0 : Int32) (a1 : Int32) : Option Unit :=
  if a0 < (0 : Int32) then
    none
  else
    if a0 ≤ a1 then
      some ()
    else
      none
def m_Te_asNumber (S : St) (a0 : Int32) : Option Int32 :=
  if a0 = (0 : Int32) then
    some (0 : Int32)
  else
    some (1 : Int32)
def m_Te_ofThing (S : St) (a1 : Int32) (a2 : Int32) : Option Int32 :=
  o1 (m_Te_checkThing S a1) fun u1 =>
  o1 (m_Te_checkWhat S a2 (2 : Int32)) fun u2 =>
  if a2 = (0 : Int32) then
    o1 (m_Gr_fieldsOf S a1) fun r1 =>
    some r1
  else if a2 = (1 : Int32) then
    o1 (m_Gr_isReached S a1) fun r2 =>
    o1 (m_Te_asNumber S r2) fun r3 =>
    some r3
  else
    o1 (m_Gr_distanceOf S a1) fun r4 =>
    some r4
def m_Gr_hasField (S : St) (a1 : Int32) (a2 : Int32) : Option Int32 :=
  if a1 < (0 : Int32) then
    some (0 : Int32)
  else
    if (S 1 6) ≤ a1 then
      some (0 : Int32)
    else
      if a2 < (0 : Int32) then
        some (0 : Int32)
      else
        oi (qin a1 80) <|
        if (S 2 a1.toNatClampNeg) ≤ a2 then
          some (0 : Int32)
        else
          some (1 : Int32)
def m_Gr_nameByField (S : St) (a1 : Int32) (a2 : Int32) (a3 : Int32) : Option St :=
  o1 (m_Gr_hasField S a1 a2) fun r1 =>
  if r1 = (0 : Int32) then
    some S
  else
    oi (qin ((a1 * (3 : Int32)) + a2) 240) <|
    o1 (m_Gr_measure (u2 S 3 ((a1 * (3 : Int32)) + a2).toNatClampNeg a3)) fun S1 =>
    some S1
def m_Te_set (S : St) (a1 : Int32) (a2 : Int32) (a3 : Int32) : Option (Int32 × St) :=
  o1 (m_Gr_isReached S a1) fun r1 =>
  if r1 = (0 : Int32) then
    none
  else
    o1 (m_Gr_hasField S a1 a2) fun r2 =>
    if r2 = (0 : Int32) then
      none
    else
      o1 (m_Te_checkNameable S a3) fun u1 =>
      o1 (m_Te_openPauses S) fun S1 =>
      o1 (m_Gr_nameOf S1 a1 a2) fun r3 =>
      if r3 = a3 then
        o1 (m_Te_closePauses S1) fun S2 =>
        some (r3, S2)
      else
        o1 (m_Gr_nameByField S1 a1 a2 a3) fun S3 =>
        o1 (m_Te_tellStores S3 a1 r3 a3) fun S4 =>
        o1 (m_Te_closePauses S4) fun S5 =>
        some (r3, S5)
def m_Te_named (S : St) (a1 : Int32) (a2 : Int32) : Option Int32 :=
  o1 (m_Gr_hasField S a1 a2) fun r1 =>
  if r1 = (0 : Int32) then
    none
  else
    o1 (m_Gr_nameOf S a1 a2) fun r2 =>
    some r2
def m_Mar_goOn_L22 : Nat → St → Int32 → Int32 → Option (St)
  | 0, _, _, _ => none
  | n + 1, S, v1, v2 =>
    if (S 31 10) = (0 : Int32) then
      some S
    else
      if v1 ≤ v2 then
        some S
      else
        o1 (m_Mar_step S) fun S1 =>
        m_Mar_goOn_L22 n S1 v1 (v2 + (1 : Int32))
def m_Mar_goOn (S : St) (a1 : Int32) : Option (Int32 × St) :=
  if (S 31 6) = (0 : Int32) then
    if (S 31 10) = (0 : Int32) then
      o1 (m_Mar_beginToMark S) fun S2 =>
      o1 (m_Mar_goOn_L22 200 S2 a1 (0 : Int32)) fun S3 =>
      if (S3 31 10) = (0 : Int32) then
        some ((-1 : Int32), S3)
      else
        some (((S3 36 2) - (S3 31 14)), S3)
    else
      o1 (m_Mar_goOn_L22 200 S a1 (0 : Int32)) fun S1 =>
      if (S1 31 10) = (0 : Int32) then
        some ((-1 : Int32), S1)
      else
        some (((S1 36 2) - (S1 31 14)), S1)
  else
    some ((-1 : Int32), S)
def m_Te_steps (S : St) (a1 : Int32) : Option (Int32 × St) :=
  if a1 < (1 : Int32) then
    none
  else
    if a1 ≤ (20 : Int32) then
      o1 (m_St_openPause 31 1 S) fun S1 =>
      ob (m_Mar_goOn S1 a1) fun r1 S2 =>
      o1 (m_St_closePause 31 1 S2) fun S3 =>
      some (r1, S3)
    else
      none
def m_Te_storeOf (S : St) (a1 : Int32) : Option Nat :=
  if a1 < (0 : Int32) then
    none
  else
    if a1 < (4 : Int32) then
      if a1 = (0 : Int32) then
        some 12
      else if a1 = (1 : Int32) then
        some 18
      else if a1 = (2 : Int32) then
        some 31
      else if a1 = (3 : Int32) then
        some 42
      else none
    else
      none
def m_St_countUnreached_L4 (k d : Nat) : Nat → St → Int32 → Int32 → Option (Int32)
  | 0, _, _, _ => none
  | n + 1, S, v1, v2 =>
    if (S 1 6) ≤ v2 then
      some v1
    else
      o1 (m_St_has k d S v2) fun r1 =>
      if r1 = (0 : Int32) then
        m_St_countUnreached_L4 k d n S (v1 + (0 : Int32)) (v2 + (1 : Int32))
      else
        o1 (m_Gr_isReached S v2) fun r2 =>
        if r2 = (0 : Int32) then
          m_St_countUnreached_L4 k d n S (v1 + (1 : Int32)) (v2 + (1 : Int32))
        else
          m_St_countUnreached_L4 k d n S (v1 + (0 : Int32)) (v2 + (1 : Int32))
def m_St_countUnreached (k d : Nat) (S : St)  : Option Int32 :=
  o1 (m_St_countUnreached_L4 k d 200 S (0 : Int32) (0 : Int32)) fun y1 =>
  some y1
def m_Sc_freeTogether_L10 (k : Nat) : Nat → St → Int32 → Int32 → Int32 → Option (Int32)
  | 0, _, _, _, _ => none
  | n + 1, S, v1, v2, v3 =>
    if (S k 2) ≤ v3 then
      some v1
    else
      if (160 : Int32) ≤ v3 then
        some v1
      else
        oi (qin v3 160) <|
        if (S (k + 3) v3.toNatClampNeg) = (0 : Int32) then
          m_Sc_freeTogether_L10 k n S (if v1 < (v2 + (1 : Int32)) then (v2 + (1 : Int32)) else v1) (v2 + (1 : Int32)) (v3 + (1 : Int32))
        else
          m_Sc_freeTogether_L10 k n S (if v1 < (0 : Int32) then (0 : Int32) else v1) (0 : Int32) (v3 + (1 : Int32))
def m_Sc_freeTogether (k : Nat) (S : St)  : Option (Int32 × St) :=
  o1 (m_Sc_markTaken k S) fun S1 =>
  o1 (m_Sc_freeTogether_L10 k 200 S1 (0 : Int32) (0 : Int32) (0 : Int32)) fun y1 =>
  some (y1, S1)
def m_Te_told (S : St) (a1 : Int32) (a2 : Int32) : Option (Int32 × St) :=
  o1 (m_Te_storeOf S a1) fun k1 =>
  if k1 = 12 then
    o1 (m_Te_checkWhat S a2 (7 : Int32)) fun u1 =>
    if a2 = (0 : Int32) then
      o1 (m_St_countHad 12 0 S) fun r1 =>
      some (r1, S)
    else if a2 = (1 : Int32) then
      o1 (m_St_wordsHad 12 0 S) fun r2 =>
      some (r2, S)
    else if a2 = (2 : Int32) then
      o1 (m_St_countUnreached 12 0 S) fun r3 =>
      some (r3, S)
    else if a2 = (3 : Int32) then
      some ((S 12 2), S)
    else if a2 = (4 : Int32) then
      some ((S 12 3), S)
    else if a2 = (5 : Int32) then
      if (S 12 5) = (0 : Int32) then
        o1 (m_Cop_freeTogether S) fun r4 =>
        some (r4, S)
      else
        some ((0 : Int32), S)
    else if a2 = (6 : Int32) then
      some ((S 12 4), S)
    else
      o1 (m_Te_asNumber S (S 12 5)) fun r5 =>
      some (r5, S)
  else if k1 = 18 then
    o1 (m_Te_checkWhat S a2 (7 : Int32)) fun u2 =>
    if a2 = (0 : Int32) then
      o1 (m_St_countHad 18 0 S) fun r6 =>
      some (r6, S)
    else if a2 = (1 : Int32) then
      o1 (m_St_wordsHad 18 0 S) fun r7 =>
      some (r7, S)
    else if a2 = (2 : Int32) then
      o1 (m_St_countUnreached 18 0 S) fun r8 =>
      some (r8, S)
    else if a2 = (3 : Int32) then
      some ((S 18 2), S)
    else if a2 = (4 : Int32) then
      some ((S 18 3), S)
    else if a2 = (5 : Int32) then
      if (S 18 5) = (0 : Int32) then
        o1 (m_Nur_freeTogether S) fun r9 =>
        some (r9, S)
      else
        some ((0 : Int32), S)
    else if a2 = (6 : Int32) then
      some ((S 18 4), S)
    else
      o1 (m_Te_asNumber S (S 18 5)) fun r10 =>
      some (r10, S)
  else if k1 = 31 then
    o1 (m_Te_checkWhat S a2 (7 : Int32)) fun u3 =>
    if a2 = (0 : Int32) then
      o1 (m_St_countHad 31 1 S) fun r11 =>
      some (r11, S)
    else if a2 = (1 : Int32) then
      o1 (m_St_wordsHad 31 1 S) fun r12 =>
      some (r12, S)
    else if a2 = (2 : Int32) then
      o1 (m_St_countUnreached 31 1 S) fun r13 =>
      some (r13, S)
    else if a2 = (3 : Int32) then
      some ((S 31 3), S)
    else if a2 = (4 : Int32) then
      some ((S 31 4), S)
    else if a2 = (5 : Int32) then
      if (S 31 6) = (0 : Int32) then
        ob (m_Sc_freeTogether 31 S) fun r14 S1 =>
        some (r14, S1)
      else
        some ((0 : Int32), S)
    else if a2 = (6 : Int32) then
      some ((S 31 5), S)
    else
      o1 (m_Te_asNumber S (S 31 6)) fun r15 =>
      some (r15, S)
  else if k1 = 42 then
    o1 (m_Te_checkWhat S a2 (7 : Int32)) fun u4 =>
    if a2 = (0 : Int32) then
      o1 (m_St_countHad 42 1 S) fun r16 =>
      some (r16, S)
    else if a2 = (1 : Int32) then
      o1 (m_St_wordsHad 42 1 S) fun r17 =>
      some (r17, S)
    else if a2 = (2 : Int32) then
      o1 (m_St_countUnreached 42 1 S) fun r18 =>
      some (r18, S)
    else if a2 = (3 : Int32) then
      some ((S 42 3), S)
    else if a2 = (4 : Int32) then
      some ((S 42 4), S)
    else if a2 = (5 : Int32) then
      if (S 42 6) = (0 : Int32) then
        ob (m_Sc_freeTogether 42 S) fun r19 S2 =>
        some (r19, S2)
      else
        some ((0 : Int32), S)
    else if a2 = (6 : Int32) then
      some ((S 42 5), S)
    else
      o1 (m_Te_asNumber S (S 42 6)) fun r20 =>
      some (r20, S)
  else none
def m_Te_at (S : St) (a1 : Int32) (a2 : Int32) : Option Int32 :=
  o1 (m_Te_storeOf S a1) fun k1 =>
  if k1 = 12 then
    o1 (m_Te_checkThing S a2) fun u1 =>
    o1 (m_St_placeOf 12 0 S a2) fun r1 =>
    some r1
  else if k1 = 18 then
    o1 (m_Te_checkThing S a2) fun u2 =>
    o1 (m_St_placeOf 18 0 S a2) fun r2 =>
    some r2
  else if k1 = 31 then
    o1 (m_Te_checkThing S a2) fun u3 =>
    o1 (m_St_placeOf 31 1 S a2) fun r3 =>
    some r3
  else if k1 = 42 then
    o1 (m_Te_checkThing S a2) fun u4 =>
    o1 (m_St_placeOf 42 1 S a2) fun r4 =>
    some r4
  else none
def m_Nur_ageOf (S : St) (a1 : Int32) : Option Int32 :=
  o1 (m_St_has 18 0 S a1) fun r1 =>
  if r1 = (0 : Int32) then
    some (-1 : Int32)
  else
    o1 (m_Row_holds 21 S a1) fun r2 =>
    if r2 = (0 : Int32) then
      some (2 : Int32)
    else
      o1 (m_Nur_isGrown S a1) fun r3 =>
      if r3 = (0 : Int32) then
        some (0 : Int32)
      else
        some (1 : Int32)
def m_Nur_isRemembered_L15 : Nat → St → Int32 → Int32 → Option (Int32)
  | 0, _, _, _ => none
  | n + 1, S, v1, v2 =>
    o1 (m_Gr_fieldsOf S v1) fun r1 =>
    if r1 ≤ v2 then
      some (0 : Int32)
    else
      o1 (m_Gr_nameOf S v1 v2) fun r2 =>
      o1 (m_Row_holds 21 S r2) fun r3 =>
      if r3 = (0 : Int32) then
        m_Nur_isRemembered_L15 n S v1 (v2 + (1 : Int32))
      else
        some (1 : Int32)
def m_Nur_isRemembered (S : St) (a1 : Int32) : Option Int32 :=
  o1 (m_Row_holds 24 S a1) fun r1 =>
  if r1 = (0 : Int32) then
    some (0 : Int32)
  else
    m_Nur_isRemembered_L15 200 S a1 (0 : Int32)
def m_Cou_countOf (S : St) (a1 : Int32) : Option Int32 :=
  o1 (m_St_has 42 1 S a1) fun r1 =>
  if r1 = (0 : Int32) then
    some (-1 : Int32)
  else
    oi (qin a1 80) <|
    some (S 46 a1.toNatClampNeg)
def m_Te_kept (S : St) (a1 : Int32) (a2 : Int32) : Option Int32 :=
  o1 (m_Te_checkThing S a1) fun u1 =>
  o1 (m_Te_checkWhat S a2 (4 : Int32)) fun u2 =>
  if a2 = (0 : Int32) then
    o1 (m_Nur_ageOf S a1) fun r1 =>
    some r1
  else if a2 = (1 : Int32) then
    o1 (m_St_has 18 0 S a1) fun r2 =>
    if r2 = (0 : Int32) then
      some (-1 : Int32)
    else
      o1 (m_Nur_isRemembered S a1) fun r3 =>
      o1 (m_Te_asNumber S r3) fun r4 =>
      some r4
  else if a2 = (2 : Int32) then
    o1 (m_Mar_colourOf S a1) fun r5 =>
    some r5
  else if a2 = (3 : Int32) then
    o1 (m_Cou_countOf S a1) fun r6 =>
    some r6
  else
    o1 (m_St_has 42 1 S a1) fun r7 =>
    if r7 = (0 : Int32) then
      some (-1 : Int32)
    else
      o1 (m_Cou_isSuspect S a1) fun r8 =>
      o1 (m_Te_asNumber S r8) fun r9 =>
      some r9
def m_Te_mixed (S : St) (a0 : Int64) (a2 : Int32) : Option Int64 :=
  some ((a0 * (31 : Int64)) + a2.toInt64)
def m_Te_mixedThing_L35 : Nat → St → Int32 → Int64 → Int32 → Option (Int64)
  | 0, _, _, _, _ => none
  | n + 1, S, v3, v4, v6 =>
    o1 (m_Gr_fieldsOf S v3) fun r1 =>
    if r1 ≤ v6 then
      some v4
    else
      o1 (m_Gr_nameOf S v3 v6) fun r2 =>
      o1 (m_Te_mixed S v4 r2) fun r3 =>
      m_Te_mixedThing_L35 n S v3 r3 (v6 + (1 : Int32))
def m_Te_mixedThing (S : St) (a1 : Int64) (a3 : Int32) : Option Int64 :=
  o1 (m_Te_ofThing S a3 (0 : Int32)) fun r1 =>
  o1 (m_Te_mixed S a1 r1) fun r2 =>
  o1 (m_Te_ofThing S a3 (1 : Int32)) fun r3 =>
  o1 (m_Te_mixed S r2 r3) fun r4 =>
  o1 (m_Te_ofThing S a3 (2 : Int32)) fun r5 =>
  o1 (m_Te_mixed S r4 r5) fun r6 =>
  o1 (m_Te_mixedThing_L35 200 S a3 r6 (0 : Int32)) fun y1 =>
  o1 (m_St_placeOf 12 0 S a3) fun r7 =>
  o1 (m_Te_mixed S y1 r7) fun r8 =>
  o1 (m_St_placeOf 18 0 S a3) fun r9 =>
  o1 (m_Te_mixed S r8 r9) fun r10 =>
  o1 (m_St_placeOf 31 1 S a3) fun r11 =>
  o1 (m_Te_mixed S r10 r11) fun r12 =>
  o1 (m_St_placeOf 42 1 S a3) fun r13 =>
  o1 (m_Te_mixed S r12 r13) fun r14 =>
  o1 (m_Te_kept S a3 (0 : Int32)) fun r15 =>
  o1 (m_Te_mixed S r14 r15) fun r16 =>
  o1 (m_Te_kept S a3 (1 : Int32)) fun r17 =>
  o1 (m_Te_mixed S r16 r17) fun r18 =>
  o1 (m_Te_kept S a3 (2 : Int32)) fun r19 =>
  o1 (m_Te_mixed S r18 r19) fun r20 =>
  o1 (m_Te_kept S a3 (3 : Int32)) fun r21 =>
  o1 (m_Te_mixed S r20 r21) fun r22 =>
  o1 (m_Te_kept S a3 (4 : Int32)) fun r23 =>
  o1 (m_Te_mixed S r22 r23) fun r24 =>
  some r24
def m_Cop_countToGo (S : St)  : Option Int32 :=
  o1 (m_St_countUnreached 12 0 S) fun r1 =>
  some r1
def m_Nur_countToGo (S : St)  : Option Int32 :=
  o1 (m_Nur_greatFits S) fun r1 =>
  if r1 = (0 : Int32) then
    some (0 : Int32)
  else
    o1 (m_St_countUnreached 18 0 S) fun r2 =>
    some r2
def m_Mar_foreseeIfWhite (S : St) (a1 : Int32) : Option St :=
  o1 (m_Mar_colourOf S a1) fun r1 =>
  if r1 = (0 : Int32) then
    o1 (m_Row_add 39 S a1) fun S1 =>
    some S1
  else
    some S
def m_Mar_foresee_L12 : Nat → St → Int32 → Option (St)
  | 0, _, _ => none
  | n + 1, S, v1 =>
    if (S 31 10) = (0 : Int32) then
      some S
    else
      if (S 36 2) ≤ v1 then
        some S
      else
        o1 (m_Row_get 36 S v1) fun r1 =>
        o1 (m_Row_add 39 S r1) fun S1 =>
        m_Mar_foresee_L12 n S1 (v1 + (1 : Int32))
def m_Mar_foresee_L53 : Nat → St → Int32 → Option (St)
  | 0, _, _ => none
  | n + 1, S, v1 =>
    if (S 31 10) = (0 : Int32) then
      if (6 : Int32) ≤ v1 then
        some S
      else
        o1 (m_Gr_rootAt S v1) fun r1 =>
        o1 (m_Mar_foreseeIfWhite S r1) fun S1 =>
        m_Mar_foresee_L53 n S1 (v1 + (1 : Int32))
    else
      some S
def m_Mar_foresee_L114 : Nat → St → Int32 → Int32 → Option (St)
  | 0, _, _, _ => none
  | n + 1, S, v2, v3 =>
    o1 (m_Gr_fieldsOf S v2) fun r1 =>
    if r1 ≤ v3 then
      some S
    else
      o1 (m_Gr_nameOf S v2 v3) fun r2 =>
      o1 (m_Mar_foreseeIfWhite S r2) fun S1 =>
      m_Mar_foresee_L114 n S1 v2 (v3 + (1 : Int32))
def m_Mar_foresee_L86 : Nat → St → Int32 → Option (St)
  | 0, _, _ => none
  | n + 1, S, v1 =>
    if (S 39 2) ≤ v1 then
      some S
    else
      if (80 : Int32) ≤ v1 then
        some S
      else
        o1 (m_Row_get 39 S v1) fun r1 =>
        o1 (m_Mar_foresee_L114 200 S r1 (0 : Int32)) fun S1 =>
        m_Mar_foresee_L86 n S1 (v1 + (1 : Int32))
def m_Mar_foresee (S : St)  : Option St :=
  o1 (m_Row_empty 39 S) fun S1 =>
  o1 (m_Mar_foresee_L12 200 S1 (S1 31 14)) fun S2 =>
  o1 (m_Mar_foresee_L53 200 S2 (0 : Int32)) fun S3 =>
  o1 (m_Mar_foresee_L86 200 S3 (0 : Int32)) fun S4 =>
  some S4
def m_Mar_countToGo_L8 : Nat → St → Int32 → Int32 → Option (Int32)
  | 0, _, _, _ => none
  | n + 1, S, v1, v2 =>
    if (S 1 6) ≤ v2 then
      some v1
    else
      o1 (m_Mar_colourOf S v2) fun r1 =>
      if r1 = (0 : Int32) then
        o1 (m_Row_holds 39 S v2) fun r2 =>
        if r2 = (0 : Int32) then
          m_Mar_countToGo_L8 n S (v1 + (1 : Int32)) (v2 + (1 : Int32))
        else
          m_Mar_countToGo_L8 n S (v1 + (0 : Int32)) (v2 + (1 : Int32))
      else
        m_Mar_countToGo_L8 n S (v1 + (0 : Int32)) (v2 + (1 : Int32))
def m_Mar_countToGo (S : St)  : Option (Int32 × St) :=
  o1 (m_Mar_foresee S) fun S1 =>
  o1 (m_Mar_countToGo_L8 200 S1 (0 : Int32) (0 : Int32)) fun y1 =>
  some (y1, S1)
def m_Cou_countToGo (S : St)  : Option (Int32 × St) :=
  o1 (m_Cou_findRings S) fun S1 =>
  some (((S1 52 2) - (S1 55 2)), S1)
def m_Te_wouldGo (S : St) (a1 : Int32) : Option (Int32 × St) :=
  o1 (m_Te_storeOf S a1) fun k1 =>
  if k1 = 12 then
    if (S 12 5) = (0 : Int32) then
      o1 (m_Cop_countToGo S) fun r1 =>
      some (r1, S)
    else
      some ((0 : Int32), S)
  else if k1 = 18 then
    if (S 18 5) = (0 : Int32) then
      o1 (m_Nur_countToGo S) fun r2 =>
      some (r2, S)
    else
      some ((0 : Int32), S)
  else if k1 = 31 then
    if (S 31 6) = (0 : Int32) then
      ob (m_Mar_countToGo S) fun r3 S1 =>
      some (r3, S1)
    else
      some ((0 : Int32), S)
  else if k1 = 42 then
    if (S 42 6) = (0 : Int32) then
      ob (m_Cou_countToGo S) fun r4 S2 =>
      some (r4, S2)
    else
      some ((0 : Int32), S)
  else none
def m_Cop_workToDo (S : St)  : Option Int32 :=
  o1 (m_St_wordsReached 12 0 S) fun r1 =>
  some r1
def m_Nur_workToDo (S : St)  : Option Int32 :=
  o1 (m_Nur_greatFits S) fun r1 =>
  if r1 = (0 : Int32) then
    some (0 : Int32)
  else
    o1 (m_St_wordsReached 18 0 S) fun r2 =>
    some r2
def m_Mar_workToDo_L11 : Nat → St → Int32 → Int32 → Option (Int32)
  | 0, _, _, _ => none
  | n + 1, S, v1, v2 =>
    if (S 39 2) ≤ v2 then
      some v1
    else
      o1 (m_Row_get 39 S v2) fun r1 =>
      o1 (m_Gr_wordsOf S r1) fun r2 =>
      m_Mar_workToDo_L11 n S (v1 + r2) (v2 + (1 : Int32))
def m_Mar_workToDo (S : St)  : Option (Int32 × St) :=
  o1 (m_Mar_foresee S) fun S1 =>
  o1 (m_St_countHad 31 1 S1) fun r1 =>
  o1 (m_Mar_workToDo_L11 200 S1 r1 (0 : Int32)) fun y1 =>
  some (y1, S1)
def m_Cou_workToDo (S : St)  : Option (Int32 × St) :=
  o1 (m_Cou_findRings S) fun S1 =>
  some ((S1 52 2), S1)
def m_Te_wouldWork (S : St) (a1 : Int32) : Option (Int32 × St) :=
  o1 (m_Te_storeOf S a1) fun k1 =>
  if k1 = 12 then
    if (S 12 5) = (0 : Int32) then
      o1 (m_Cop_workToDo S) fun r1 =>
      some (r1, S)
    else
      some ((0 : Int32), S)
  else if k1 = 18 then
    if (S 18 5) = (0 : Int32) then
      o1 (m_Nur_workToDo S) fun r2 =>
      some (r2, S)
    else
      some ((0 : Int32), S)
  else if k1 = 31 then
    if (S 31 6) = (0 : Int32) then
      ob (m_Mar_workToDo S) fun r3 S1 =>
      some (r3, S1)
    else
      some ((0 : Int32), S)
  else if k1 = 42 then
    if (S 42 6) = (0 : Int32) then
      ob (m_Cou_workToDo S) fun r4 S2 =>
      some (r4, S2)
    else
      some ((0 : Int32), S)
  else none
def m_Te_more (S : St) (a1 : Int32) : Option Int32 :=
  o1 (m_Te_checkWhat S a1 (3 : Int32)) fun u1 =>
  if a1 = (0 : Int32) then
    some (S 18 9)
  else if a1 = (1 : Int32) then
    some (S 18 10)
  else if a1 = (2 : Int32) then
    o1 (m_Te_asNumber S (S 31 10)) fun r1 =>
    some r1
  else
    some (S 42 10)
def m_Gr_countLostWithout (S : St) (a1 : Int32) : Option (Int32 × St) :=
  o1 (m_Gr_trace 9 S a1) fun S1 =>
  some (((S1 6 2) - (S1 9 2)), S1)
def m_Te_wouldLose (S : St) (a1 : Int32) : Option (Int32 × St) :=
  o1 (m_Te_checkRoot S a1) fun u1 =>
  ob (m_Gr_countLostWithout S a1) fun r1 S1 =>
  some (r1, S1)
def m_Te_digest_L16 : Nat → St → Int64 → Int32 → Option (Int64)
  | 0, _, _, _ => none
  | n + 1, S, v1, v3 =>
    if (S 1 6) ≤ v3 then
      some v1
    else
      o1 (m_Te_mixedThing S v1 v3) fun r1 =>
      m_Te_digest_L16 n S r1 (v3 + (1 : Int32))
def m_Te_digest (S : St)  : Option (Int64 × St) :=
  o1 (m_Te_mixed S (58088 : Int64) (S 1 6)) fun r1 =>
  o1 (m_Te_digest_L16 200 S r1 (0 : Int32)) fun y1 =>
  ob (m_Te_told S (0 : Int32) (0 : Int32)) fun r2 S1 =>
  o1 (m_Te_mixed S1 y1 r2) fun r3 =>
  ob (m_Te_told S1 (0 : Int32) (1 : Int32)) fun r4 S2 =>
  o1 (m_Te_mixed S2 r3 r4) fun r5 =>
  ob (m_Te_told S2 (0 : Int32) (2 : Int32)) fun r6 S3 =>
  o1 (m_Te_mixed S3 r5 r6) fun r7 =>
  ob (m_Te_told S3 (0 : Int32) (3 : Int32)) fun r8 S4 =>
  o1 (m_Te_mixed S4 r7 r8) fun r9 =>
  ob (m_Te_told S4 (0 : Int32) (4 : Int32)) fun r10 S5 =>
  o1 (m_Te_mixed S5 r9 r10) fun r11 =>
  ob (m_Te_told S5 (0 : Int32) (5 : Int32)) fun r12 S6 =>
  o1 (m_Te_mixed S6 r11 r12) fun r13 =>
  ob (m_Te_told S6 (0 : Int32) (6 : Int32)) fun r14 S7 =>
  o1 (m_Te_mixed S7 r13 r14) fun r15 =>
  ob (m_Te_told S7 (0 : Int32) (7 : Int32)) fun r16 S8 =>
  o1 (m_Te_mixed S8 r15 r16) fun r17 =>
  ob (m_Te_wouldGo S8 (0 : Int32)) fun r18 S9 =>
  o1 (m_Te_mixed S9 r17 r18) fun r19 =>
  ob (m_Te_wouldWork S9 (0 : Int32)) fun r20 S10 =>
  o1 (m_Te_mixed S10 r19 r20) fun r21 =>
  ob (m_Te_told S10 (1 : Int32) (0 : Int32)) fun r22 S11 =>
  o1 (m_Te_mixed S11 r21 r22) fun r23 =>
  ob (m_Te_told S11 (1 : Int32) (1 : Int32)) fun r24 S12 =>
  o1 (m_Te_mixed S12 r23 r24) fun r25 =>
  ob (m_Te_told S12 (1 : Int32) (2 : Int32)) fun r26 S13 =>
  o1 (m_Te_mixed S13 r25 r26) fun r27 =>
  ob (m_Te_told S13 (1 : Int32) (3 : Int32)) fun r28 S14 =>
  o1 (m_Te_mixed S14 r27 r28) fun r29 =>
  ob (m_Te_told S14 (1 : Int32) (4 : Int32)) fun r30 S15 =>
  o1 (m_Te_mixed S15 r29 r30) fun r31 =>
  ob (m_Te_told S15 (1 : Int32) (5 : Int32)) fun r32 S16 =>
  o1 (m_Te_mixed S16 r31 r32) fun r33 =>
  ob (m_Te_told S16 (1 : Int32) (6 : Int32)) fun r34 S17 =>
  o1 (m_Te_mixed S17 r33 r34) fun r35 =>
  ob (m_Te_told S17 (1 : Int32) (7 : Int32)) fun r36 S18 =>
  o1 (m_Te_mixed S18 r35 r36) fun r37 =>
  ob (m_Te_wouldGo S18 (1 : Int32)) fun r38 S19 =>
  o1 (m_Te_mixed S19 r37 r38) fun r39 =>
  ob (m_Te_wouldWork S19 (1 : Int32)) fun r40 S20 =>
  o1 (m_Te_mixed S20 r39 r40) fun r41 =>
  ob (m_Te_told S20 (2 : Int32) (0 : Int32)) fun r42 S21 =>
  o1 (m_Te_mixed S21 r41 r42) fun r43 =>
  ob (m_Te_told S21 (2 : Int32) (1 : Int32)) fun r44 S22 =>
  o1 (m_Te_mixed S22 r43 r44) fun r45 =>
  ob (m_Te_told S22 (2 : Int32) (2 : Int32)) fun r46 S23 =>
  o1 (m_Te_mixed S23 r45 r46) fun r47 =>
  ob (m_Te_told S23 (2 : Int32) (3 : Int32)) fun r48 S24 =>
  o1 (m_Te_mixed S24 r47 r48) fun r49 =>
  ob (m_Te_told S24 (2 : Int32) (4 : Int32)) fun r50 S25 =>
  o1 (m_Te_mixed S25 r49 r50) fun r51 =>
  ob (m_Te_told S25 (2 : Int32) (5 : Int32)) fun r52 S26 =>
  o1 (m_Te_mixed S26 r51 r52) fun r53 =>
  ob (m_Te_told S26 (2 : Int32) (6 : Int32)) fun r54 S27 =>
  o1 (m_Te_mixed S27 r53 r54) fun r55 =>
  ob (m_Te_told S27 (2 : Int32) (7 : Int32)) fun r56 S28 =>
  o1 (m_Te_mixed S28 r55 r56) fun r57 =>
  ob (m_Te_wouldGo S28 (2 : Int32)) fun r58 S29 =>
  o1 (m_Te_mixed S29 r57 r58) fun r59 =>
  ob (m_Te_wouldWork S29 (2 : Int32)) fun r60 S30 =>
  o1 (m_Te_mixed S30 r59 r60) fun r61 =>
  ob (m_Te_told S30 (3 : Int32) (0 : Int32)) fun r62 S31 =>
  o1 (m_Te_mixed S31 r61 r62) fun r63 =>
  ob (m_Te_told S31 (3 : Int32) (1 : Int32)) fun r64 S32 =>
  o1 (m_Te_mixed S32 r63 r64) fun r65 =>
  ob (m_Te_told S32 (3 : Int32) (2 : Int32)) fun r66 S33 =>
  o1 (m_Te_mixed S33 r65 r66) fun r67 =>
  ob (m_Te_told S33 (3 : Int32) (3 : Int32)) fun r68 S34 =>
  o1 (m_Te_mixed S34 r67 r68) fun r69 =>
  ob (m_Te_told S34 (3 : Int32) (4 : Int32)) fun r70 S35 =>
  o1 (m_Te_mixed S35 r69 r70) fun r71 =>
  ob (m_Te_told S35 (3 : Int32) (5 : Int32)) fun r72 S36 =>
  o1 (m_Te_mixed S36 r71 r72) fun r73 =>
  ob (m_Te_told S36 (3 : Int32) (6 : Int32)) fun r74 S37 =>
  o1 (m_Te_mixed S37 r73 r74) fun r75 =>
  ob (m_Te_told S37 (3 : Int32) (7 : Int32)) fun r76 S38 =>
  o1 (m_Te_mixed S38 r75 r76) fun r77 =>
  ob (m_Te_wouldGo S38 (3 : Int32)) fun r78 S39 =>
  o1 (m_Te_mixed S39 r77 r78) fun r79 =>
  ob (m_Te_wouldWork S39 (3 : Int32)) fun r80 S40 =>
  o1 (m_Te_mixed S40 r79 r80) fun r81 =>
  o1 (m_Te_more S40 (0 : Int32)) fun r82 =>
  o1 (m_Te_mixed S40 r81 r82) fun r83 =>
  o1 (m_Te_more S40 (1 : Int32)) fun r84 =>
  o1 (m_Te_mixed S40 r83 r84) fun r85 =>
  o1 (m_Te_more S40 (2 : Int32)) fun r86 =>
  o1 (m_Te_mixed S40 r85 r86) fun r87 =>
  o1 (m_Te_more S40 (3 : Int32)) fun r88 =>
  o1 (m_Te_mixed S40 r87 r88) fun r89 =>
  ob (m_Te_wouldLose S40 (0 : Int32)) fun r90 S41 =>
  o1 (m_Te_mixed S41 r89 r90) fun r91 =>
  ob (m_Te_wouldLose S41 (1 : Int32)) fun r92 S42 =>
  o1 (m_Te_mixed S42 r91 r92) fun r93 =>
  ob (m_Te_wouldLose S42 (2 : Int32)) fun r94 S43 =>
  o1 (m_Te_mixed S43 r93 r94) fun r95 =>
  ob (m_Te_wouldLose S43 (3 : Int32)) fun r96 S44 =>
  o1 (m_Te_mixed S44 r95 r96) fun r97 =>
  ob (m_Te_wouldLose S44 (4 : Int32)) fun r98 S45 =>
  o1 (m_Te_mixed S45 r97 r98) fun r99 =>
  ob (m_Te_wouldLose S45 (5 : Int32)) fun r100 S46 =>
  o1 (m_Te_mixed S46 r99 r100) fun r101 =>
  some (r101, S46)
def m_St_cleanUp_Cop (S : St)  : Option (Int32 × St) :=
  if (S 12 5) = (0 : Int32) then
    ob (m_Cop_collectNow S) fun r1 S1 =>
    some (r1, S1)
  else
    some ((0 : Int32), S)
def m_St_cleanUp_Nur (S : St)  : Option (Int32 × St) :=
  if (S 18 5) = (0 : Int32) then
    ob (m_Nur_collectNow S) fun r1 S1 =>
    some (r1, S1)
  else
    some ((0 : Int32), S)
def m_St_cleanUp_Mar (S : St)  : Option (Int32 × St) :=
  if (S 31 6) = (0 : Int32) then
    ob (m_Mar_collectNow S) fun r1 S1 =>
    some (r1, S1)
  else
    some ((0 : Int32), S)
def m_St_cleanUp_Cou (S : St)  : Option (Int32 × St) :=
  if (S 42 6) = (0 : Int32) then
    ob (m_Cou_collectNow S) fun r1 S1 =>
    some (r1, S1)
  else
    some ((0 : Int32), S)
def m_Te_collect (S : St) (a1 : Int32) : Option (Int32 × St) :=
  o1 (m_Te_storeOf S a1) fun k1 =>
  if k1 = 12 then
    o1 (m_St_openPause 12 0 S) fun S1 =>
    ob (m_St_cleanUp_Cop S1) fun r1 S2 =>
    o1 (m_St_closePause 12 0 S2) fun S3 =>
    some (r1, S3)
  else if k1 = 18 then
    o1 (m_St_openPause 18 0 S) fun S4 =>
    ob (m_St_cleanUp_Nur S4) fun r2 S5 =>
    o1 (m_St_closePause 18 0 S5) fun S6 =>
    some (r2, S6)
  else if k1 = 31 then
    o1 (m_St_openPause 31 1 S) fun S7 =>
    ob (m_St_cleanUp_Mar S7) fun r3 S8 =>
    o1 (m_St_closePause 31 1 S8) fun S9 =>
    some (r3, S9)
  else if k1 = 42 then
    o1 (m_St_openPause 42 1 S) fun S10 =>
    ob (m_St_cleanUp_Cou S10) fun r4 S11 =>
    o1 (m_St_closePause 42 1 S11) fun S12 =>
    some (r4, S12)
  else none
end
section
theorem oi_some {γ : Type} {c : Prop} [Decidable c] {x : Option γ} {r : γ} (h : oi c x = some r) : c ∧ x = some r := by
  unfold oi at h
  split at h
  · exact ⟨by assumption, h⟩
  · cases h
set_option maxRecDepth 100000 in
theorem w_Arr_fill_6_4_L5 {G : Gx} (hi : qinj (gad G)) {X : Cx} (C : QC G X cJ7_fill_53178 4 RJ7 0 0 none) {Q : State → Prop} : ∀ (n : Nat) (S : St) (v1 : Int32) (v2 : Int32) (v3 : Int32) (zS : St), m_Arr_fill_6_L5 4 n S v1 v2 v3 = some zS → QW G X 4 Q 20 [] [] zS → QW G X 4 Q 5 [(0, .ref (gad G 4)), (1, .int v1), (2, .int v2), (3, .int v3)] [] S := by
  intro n
  induction n with
  | zero =>
    intro S v1 v2 v3 zS hm kk
    rw [m_Arr_fill_6_L5] at hm
    cases hm
  | succ n ih =>
    intro S v1 v2 v3 zS hm kk
    rw [m_Arr_fill_6_L5] at hm
    refine q_iload_n (pc := 5) C dJ7_fill_53178_5 rfl 2 rfl ?_
    refine q_iload_n (pc := 6) C dJ7_fill_53178_6 rfl 3 rfl ?_
    refine q_icmp_ge (pc := 7) (tgt := 20) C dJ7_fill_53178_7 (by decide) (fun c1 => ?_) (fun c1 => ?_)
    · replace hm := hm_t c1 hm
      cases hm
      refine q_lv (lv' := []) [] rfl ?_
      exact kk
    · replace hm := hm_f c1 hm
      refine q_aload_n (pc := 10) C dJ7_fill_53178_10 rfl 0 rfl ?_
      refine q_iload_n (pc := 11) C dJ7_fill_53178_11 rfl 2 rfl ?_
      refine q_iload_n (pc := 12) C dJ7_fill_53178_12 rfl 1 rfl ?_
      obtain ⟨b1, hm⟩ := oi_some hm
      refine q_iast (pc := 13) C (by decide) (fun _ => ce_4 _ _ _) (ty_4 _) b1 dJ7_fill_53178_13 ?_
      refine q_iinc (pc := 14) (k := 2) (v := (v2 + (1 : Int32))) (lv' := [(2, .int (v2 + (1 : Int32))), (0, .ref (gad G 4)), (1, .int v1), (3, .int v3)]) C dJ7_fill_53178_14 rfl rfl (by decide) rfl ?_
      refine q_goto (pc := 17) (tgt := 5) C dJ7_fill_53178_17 (by decide) ?_
      refine q_lv (lv' := [(0, .ref (gad G 4)), (1, .int v1), (2, .int (v2 + (1 : Int32))), (3, .int v3)]) [1, 2, 0, 3] rfl ?_
      exact ih _ _ _ _ _ hm kk
set_option maxRecDepth 100000 in
theorem c_Arr_fill_6_4 {G : Gx} (hi : qinj (gad G)) {S : St} {a1 : Int32} {zS : St} (hm : m_Arr_fill_6 4 S a1 = some zS) : QMet G yJ7_fill_53178 cJ7_fill_53178 4 none 0 0 [.ref (gad G 4), .int a1] S none zS := by
  refine q_entry (by decide +kernel) rfl hi (Nat.le_of_ble_eq_true rfl) ?_
  intro X C
  refine q_lv (lv' := [(0, .ref (gad G 4)), (1, .int a1)]) [0, 1] rfl ?_
  unfold m_Arr_fill_6 at hm
  refine q_iconst (pc := 0) (v := (0 : Int32)) C dJ7_fill_53178_0 (by decide) ?_
  refine q_istore_n (pc := 1) (lv' := [(2, .int (0 : Int32)), (0, .ref (gad G 4)), (1, .int a1)]) C dJ7_fill_53178_1 rfl (by decide) rfl ?_
  refine q_aload_n (pc := 2) C dJ7_fill_53178_2 rfl 1 rfl ?_
  refine q_alen (pc := 3) (v := (6 : Int32)) C (by decide) (ce_4 _ _ _) (ty_4 _) (by decide) dJ7_fill_53178_3 ?_
  refine q_istore_n (pc := 4) (lv' := [(3, .int (6 : Int32)), (2, .int (0 : Int32)), (0, .ref (gad G 4)), (1, .int a1)]) C dJ7_fill_53178_4 rfl (by decide) rfl ?_
  refine q_lv (lv' := [(0, .ref (gad G 4)), (1, .int a1), (2, .int (0 : Int32)), (3, .int (6 : Int32))]) [2, 3, 1, 0] rfl ?_
  obtain ⟨S1, h1, hm⟩ := o1_some hm
  refine w_Arr_fill_6_4_L5 hi C 200 _ _ _ _ _ h1 ?_
  cases hm
  exact q_vret (pc := 20) C dJ7_fill_53178_20
set_option maxRecDepth 100000 in
theorem w_Row_empty_6_L2 {G : Gx} (hi : qinj (gad G)) {X : Cx} (C : QC G X cX5_empty 2 RX5 0 0 none) {Q : State → Prop} : ∀ (n : Nat) (S : St) (v1 : Int32) (zS : St), m_Row_empty_L2 6 n S v1 = some zS → QW G X 2 Q 21 [(0, .ref (gad G 6))] [] zS → QW G X 2 Q 2 [(0, .ref (gad G 6)), (1, .int v1)] [] S := by
  intro n
  induction n with
  | zero =>
    intro S v1 zS hm kk
    rw [m_Row_empty_L2] at hm
    cases hm
  | succ n ih =>
    intro S v1 zS hm kk
    rw [m_Row_empty_L2] at hm
    refine q_iload_n (pc := 2) C dX5_empty_2 rfl 1 rfl ?_
    refine q_bipush (pc := 3) (v := (80 : Int32)) C dX5_empty_3 (by decide) ?_
    refine q_icmp_ge (pc := 5) (tgt := 21) C dX5_empty_5 (by decide) (fun c1 => ?_) (fun c1 => ?_)
    · replace hm := hm_t c1 hm
      cases hm
      refine q_lv (lv' := [(0, .ref (gad G 6))]) [0] rfl ?_
      exact kk
    · replace hm := hm_f c1 hm
      refine q_aload_n (pc := 8) C dX5_empty_8 rfl 0 rfl ?_
      refine q_get (pc := 9) (T := TX5) (v := .ref (gad G 8)) C (by decide) (ce_6 _ _ _) (ci := 5) rfl inlX5 (j := 1) (by decide) rfl tw_50 (Or.inl rfl) dX5_empty_9 ?_
      refine q_iload_n (pc := 12) C dX5_empty_12 rfl 1 rfl ?_
      refine q_iconst (pc := 13) (v := (0 : Int32)) C dX5_empty_13 (by decide) ?_
      obtain ⟨b1, hm⟩ := oi_some hm
      refine q_zast0 (pc := 14) C (by decide) (fun _ => ce_8 _ _ _) (ty_8 _) b1 dX5_empty_14 ?_
      refine q_iinc (pc := 15) (k := 1) (v := (v1 + (1 : Int32))) (lv' := [(1, .int (v1 + (1 : Int32))), (0, .ref (gad G 6))]) C dX5_empty_15 rfl rfl (by decide) rfl ?_
      refine q_goto (pc := 18) (tgt := 2) C dX5_empty_18 (by decide) ?_
      refine q_lv (lv' := [(0, .ref (gad G 6)), (1, .int (v1 + (1 : Int32)))]) [1, 0] rfl ?_
      exact ih _ _ _ hm kk
set_option maxRecDepth 100000 in
theorem c_Row_empty_6 {G : Gx} (hi : qinj (gad G)) {S : St}  {zS : St} (hm : m_Row_empty 6 S  = some zS) : QMet G yX5_empty cX5_empty 2 none 0 0 [.ref (gad G 6)] S none zS := by
  refine q_entry (by decide +kernel) rfl hi (Nat.le_of_ble_eq_true rfl) ?_
  intro X C
  refine q_lv (lv' := [(0, .ref (gad G 6))]) [0] rfl ?_
  unfold m_Row_empty at hm
  refine q_iconst (pc := 0) (v := (0 : Int32)) C dX5_empty_0 (by decide) ?_
  refine q_istore_n (pc := 1) (lv' := [(1, .int (0 : Int32)), (0, .ref (gad G 6))]) C dX5_empty_1 rfl (by decide) rfl ?_
  refine q_lv (lv' := [(0, .ref (gad G 6)), (1, .int (0 : Int32))]) [1, 0] rfl ?_
  obtain ⟨S1, h1, hm⟩ := o1_some hm
  refine w_Row_empty_6_L2 hi C 200 _ _ _ h1 ?_
  refine q_aload_n (pc := 21) C dX5_empty_21 rfl 0 rfl ?_
  refine q_iconst (pc := 22) (v := (0 : Int32)) C dX5_empty_22 (by decide) ?_
  refine q_put (pc := 23) (T := TX5) (ty := .int) C tyX5 tyX5_ok nmX5 (by decide) (ce_6 _ _ _) (pe_6_2 _ _ _ _) (ci := 5) rfl inlX5 (j := 2) (by decide) (Nat.le_of_ble_eq_true rfl) tw_127 (Or.inl rfl) rfl (by decide +kernel) rfl rfl dX5_empty_23 ?_
  cases hm
  exact q_vret (pc := 26) C dX5_empty_26
set_option maxRecDepth 100000 in
theorem c_Gr_startAnew {G : Gx} (hi : qinj (gad G)) {S : St}  {zS : St} (hm : m_Gr_startAnew S  = some zS) : QMet G yX2_startAnew cX2_startAnew 1 none 1 23 [.ref (gad G 1)] S none zS := by
  refine q_entry (by decide +kernel) rfl hi (Nat.le_of_ble_eq_true rfl) ?_
  intro X C
  refine q_lv (lv' := [(0, .ref (gad G 1))]) [0] rfl ?_
  unfold m_Gr_startAnew at hm
  refine q_aload_n (pc := 0) C dX2_startAnew_0 rfl 0 rfl ?_
  refine q_iconst (pc := 1) (v := (0 : Int32)) C dX2_startAnew_1 (by decide) ?_
  refine q_put (pc := 2) (T := TX2) (ty := .int) C tyX2 tyX2_ok nmX2 (by decide) (ce_1 _ _ _) (pe_1_6 _ _ _ _) (ci := 2) rfl inlX2 (j := 6) (by decide) (Nat.le_of_ble_eq_true rfl) tw_118 (Or.inl rfl) rfl (by decide +kernel) rfl rfl dX2_startAnew_2 ?_
  refine q_aload_n (pc := 5) C dX2_startAnew_5 rfl 0 rfl ?_
  refine q_get (pc := 6) (T := TX2) (v := .ref (gad G 4)) C (by decide) (ce_1 _ _ _) (ci := 2) rfl inlX2 (j := 2) (by decide) rfl tw_39 (Or.inl rfl) dX2_startAnew_6 ?_
  refine q_iconst (pc := 9) (v := (-1 : Int32)) C dX2_startAnew_9 (by decide) ?_
  obtain ⟨S1, h1, hm⟩ := o1_some hm
  refine q_callS (pc := 10) (As := [.ref (gad G 4), .int (-1 : Int32)]) (rest := []) C (c_Arr_fill_6_4 hi h1) tw_119 tw_120 tw_121 tw_122 (nA := 2) (by decide +kernel) rfl (by decide) (Nat.le_of_ble_eq_true rfl) rfl dX2_startAnew_10 ?_
  refine q_aload_n (pc := 13) C dX2_startAnew_13 rfl 0 rfl ?_
  refine q_get (pc := 14) (T := TX2) (v := .ref (gad G 6)) C (by decide) (ce_1 _ _ _) (ci := 2) rfl inlX2 (j := 4) (by decide) rfl tw_44 (Or.inl rfl) dX2_startAnew_14 ?_
  obtain ⟨S2, h2, hm⟩ := o1_some hm
  refine q_callV (pc := 17) (k := 6) (As := []) (rest := []) (T := TX5) C (c_Row_empty_6 hi h2) (by decide) (ce_6 _ _ _) (ci := 5) rfl tw_123 tw_124 tw_125 tw_43 tw_126 (nA := 0) (by decide +kernel) rfl (by decide) (Nat.le_of_ble_eq_true rfl) rfl dX2_startAnew_17 ?_
  cases hm
  exact q_vret (pc := 20) C dX2_startAnew_20
set_option maxRecDepth 100000 in
theorem w_St_letAllGo_12_L2 {G : Gx} (hi : qinj (gad G)) {X : Cx} (C : QC G X cX7_letAllGo 2 RX7 0 0 none) {Q : State → Prop} : ∀ (n : Nat) (S : St) (v1 : Int32) (zS : St), m_St_letAllGo_L2 12 0 n S v1 = some zS → QW G X 2 Q 21 [] [] zS → QW G X 2 Q 2 [(0, .ref (gad G 12)), (1, .int v1)] [] S := by
  intro n
  induction n with
  | zero =>
    intro S v1 zS hm kk
    rw [m_St_letAllGo_L2] at hm
    cases hm
  | succ n ih =>
    intro S v1 zS hm kk
    rw [m_St_letAllGo_L2] at hm
    refine q_iload_n (pc := 2) C dX7_letAllGo_2 rfl 1 rfl ?_
    refine q_bipush (pc := 3) (v := (80 : Int32)) C dX7_letAllGo_3 (by decide) ?_
    refine q_icmp_ge (pc := 5) (tgt := 21) C dX7_letAllGo_5 (by decide) (fun c1 => ?_) (fun c1 => ?_)
    · replace hm := hm_t c1 hm
      cases hm
      refine q_lv (lv' := []) [] rfl ?_
      exact kk
    · replace hm := hm_f c1 hm
      refine q_aload_n (pc := 8) C dX7_letAllGo_8 rfl 0 rfl ?_
      refine q_get (pc := 9) (T := TX0) (v := .ref (gad G 13)) C (by decide) (ce_12 _ _ _) (ci := 0) rfl inlX0 (j := 7) (by decide) rfl tw_65 (Or.inl rfl) dX7_letAllGo_9 ?_
      refine q_iload_n (pc := 12) C dX7_letAllGo_12 rfl 1 rfl ?_
      refine q_iconst (pc := 13) (v := (0 : Int32)) C dX7_letAllGo_13 (by decide) ?_
      obtain ⟨b1, hm⟩ := oi_some hm
      refine q_zast0 (pc := 14) C (by decide) (fun _ => ce_13 _ _ _) (ty_13 _) b1 dX7_letAllGo_14 ?_
      refine q_iinc (pc := 15) (k := 1) (v := (v1 + (1 : Int32))) (lv' := [(1, .int (v1 + (1 : Int32))), (0, .ref (gad G 12))]) C dX7_letAllGo_15 rfl rfl (by decide) rfl ?_
      refine q_goto (pc := 18) (tgt := 2) C dX7_letAllGo_18 (by decide) ?_
      refine q_lv (lv' := [(0, .ref (gad G 12)), (1, .int (v1 + (1 : Int32)))]) [1, 0] rfl ?_
      exact ih _ _ _ hm kk
set_option maxRecDepth 100000 in
theorem c_St_letAllGo_12 {G : Gx} (hi : qinj (gad G)) {S : St}  {zS : St} (hm : m_St_letAllGo 12 0 S  = some zS) : QMet G yX7_letAllGo cX7_letAllGo 2 none 0 0 [.ref (gad G 12)] S none zS := by
  refine q_entry (by decide +kernel) rfl hi (Nat.le_of_ble_eq_true rfl) ?_
  intro X C
  refine q_lv (lv' := [(0, .ref (gad G 12))]) [0] rfl ?_
  unfold m_St_letAllGo at hm
  refine q_iconst (pc := 0) (v := (0 : Int32)) C dX7_letAllGo_0 (by decide) ?_
  refine q_istore_n (pc := 1) (lv' := [(1, .int (0 : Int32)), (0, .ref (gad G 12))]) C dX7_letAllGo_1 rfl (by decide) rfl ?_
  refine q_lv (lv' := [(0, .ref (gad G 12)), (1, .int (0 : Int32))]) [1, 0] rfl ?_
  obtain ⟨S1, h1, hm⟩ := o1_some hm
  refine w_St_letAllGo_12_L2 hi C 200 _ _ _ h1 ?_
  cases hm
  exact q_vret (pc := 21) C dX7_letAllGo_21
set_option maxRecDepth 100000 in
theorem c_Cop_forgetThings {G : Gx} (hi : qinj (gad G)) {S : St}  {zS : St} (hm : m_Cop_forgetThings S  = some zS) : QMet G yX0_forgetThings cX0_forgetThings 1 none 0 0 [.ref (gad G 12)] S none zS := by
  refine q_entry (by decide +kernel) rfl hi (Nat.le_of_ble_eq_true rfl) ?_
  intro X C
  refine q_lv (lv' := [(0, .ref (gad G 12))]) [0] rfl ?_
  unfold m_Cop_forgetThings at hm
  refine q_aload_n (pc := 0) C dX0_forgetThings_0 rfl 0 rfl ?_
  refine q_iconst (pc := 1) (v := (0 : Int32)) C dX0_forgetThings_1 (by decide) ?_
  refine q_put (pc := 2) (T := TX0) (ty := .boolean) C tyX0 tyX0_ok nmX0 (by decide) (ce_12 _ _ _) (pe_12_10 _ _ _ _) (ci := 0) rfl inlX0 (j := 10) (by decide) (Nat.le_of_ble_eq_true rfl) tw_151 (Or.inl rfl) rfl (by decide +kernel) (by decide) (by decide) dX0_forgetThings_2 ?_
  refine q_aload_n (pc := 5) C dX0_forgetThings_5 rfl 0 rfl ?_
  refine q_iconst (pc := 6) (v := (0 : Int32)) C dX0_forgetThings_6 (by decide) ?_
  refine q_put (pc := 7) (T := TX0) (ty := .int) C tyX0 tyX0_ok nmX0 (by decide) (ce_12 _ _ _) (pe_12_11 _ _ _ _) (ci := 0) rfl inlX0 (j := 11) (by decide) (Nat.le_of_ble_eq_true rfl) tw_152 (Or.inl rfl) rfl (by decide +kernel) rfl rfl dX0_forgetThings_7 ?_
  cases hm
  exact q_vret (pc := 10) C dX0_forgetThings_10
set_option maxRecDepth 100000 in
theorem c_St_resetCounters_Cop_12 {G : Gx} (hi : qinj (gad G)) {S : St}  {zu : Unit} (hm : m_St_resetCounters_Cop S  = some zu) : QMet G yX7_resetCounters cX7_resetCounters 1 none 0 0 [.ref (gad G 12)] S none S := by
  refine q_entry (by decide +kernel) rfl hi (Nat.le_of_ble_eq_true rfl) ?_
  intro X C
  refine q_lv (lv' := [(0, .ref (gad G 12))]) [0] rfl ?_
  unfold m_St_resetCounters_Cop at hm
  cases hm
  exact q_vret (pc := 0) C dX7_resetCounters_0
set_option maxRecDepth 100000 in
theorem c_St_startAnew_Cop_12 {G : Gx} (hi : qinj (gad G)) {S : St} {a1 : Int32} {zS : St} (hm : m_St_startAnew_Cop S a1 = some zS) : QMet G yX7_startAnew cX7_startAnew 2 none 1 21 [.ref (gad G 12), .int a1] S none zS := by
  refine q_entry (by decide +kernel) rfl hi (Nat.le_of_ble_eq_true rfl) ?_
  intro X C
  refine q_lv (lv' := [(0, .ref (gad G 12)), (1, .int a1)]) [0, 1] rfl ?_
  unfold m_St_startAnew_Cop at hm
  refine q_aload_n (pc := 0) C dX7_startAnew_0 rfl 0 rfl ?_
  refine q_iload_n (pc := 1) C dX7_startAnew_1 rfl 1 rfl ?_
  refine q_put (pc := 2) (T := TX0) (ty := .int) C tyX0 tyX0_ok nmX0 (by decide) (ce_12 _ _ _) (pe_12_1 _ _ _ _) (ci := 0) rfl inlX0 (j := 1) (by decide) (Nat.le_of_ble_eq_true rfl) tw_68 (Or.inl rfl) rfl (by decide +kernel) rfl rfl dX7_startAnew_2 ?_
  refine q_aload_n (pc := 5) C dX7_startAnew_5 rfl 0 rfl ?_
  refine q_iconst (pc := 6) (v := (0 : Int32)) C dX7_startAnew_6 (by decide) ?_
  refine q_put (pc := 7) (T := TX0) (ty := .int) C tyX0 tyX0_ok nmX0 (by decide) (ce_12 _ _ _) (pe_12_2 _ _ _ _) (ci := 0) rfl inlX0 (j := 2) (by decide) (Nat.le_of_ble_eq_true rfl) tw_133 (Or.inl rfl) rfl (by decide +kernel) rfl rfl dX7_startAnew_7 ?_
  refine q_aload_n (pc := 10) C dX7_startAnew_10 rfl 0 rfl ?_
  refine q_iconst (pc := 11) (v := (0 : Int32)) C dX7_startAnew_11 (by decide) ?_
  refine q_put (pc := 12) (T := TX0) (ty := .int) C tyX0 tyX0_ok nmX0 (by decide) (ce_12 _ _ _) (pe_12_3 _ _ _ _) (ci := 0) rfl inlX0 (j := 3) (by decide) (Nat.le_of_ble_eq_true rfl) tw_134 (Or.inl rfl) rfl (by decide +kernel) rfl rfl dX7_startAnew_12 ?_
  refine q_aload_n (pc := 15) C dX7_startAnew_15 rfl 0 rfl ?_
  refine q_iconst (pc := 16) (v := (0 : Int32)) C dX7_startAnew_16 (by decide) ?_
  refine q_put (pc := 17) (T := TX0) (ty := .int) C tyX0 tyX0_ok nmX0 (by decide) (ce_12 _ _ _) (pe_12_4 _ _ _ _) (ci := 0) rfl inlX0 (j := 4) (by decide) (Nat.le_of_ble_eq_true rfl) tw_135 (Or.inl rfl) rfl (by decide +kernel) rfl rfl dX7_startAnew_17 ?_
  refine q_aload_n (pc := 20) C dX7_startAnew_20 rfl 0 rfl ?_
  refine q_iconst (pc := 21) (v := (0 : Int32)) C dX7_startAnew_21 (by decide) ?_
  refine q_put (pc := 22) (T := TX0) (ty := .boolean) C tyX0 tyX0_ok nmX0 (by decide) (ce_12 _ _ _) (pe_12_5 _ _ _ _) (ci := 0) rfl inlX0 (j := 5) (by decide) (Nat.le_of_ble_eq_true rfl) tw_136 (Or.inl rfl) rfl (by decide +kernel) (by decide) (by decide) dX7_startAnew_22 ?_
  refine q_aload_n (pc := 25) C dX7_startAnew_25 rfl 0 rfl ?_
  refine q_iconst (pc := 26) (v := (0 : Int32)) C dX7_startAnew_26 (by decide) ?_
  refine q_put (pc := 27) (T := TX0) (ty := .int) C tyX0 tyX0_ok nmX0 (by decide) (ce_12 _ _ _) (pe_12_6 _ _ _ _) (ci := 0) rfl inlX0 (j := 6) (by decide) (Nat.le_of_ble_eq_true rfl) tw_137 (Or.inl rfl) rfl (by decide +kernel) rfl rfl dX7_startAnew_27 ?_
  refine q_aload_n (pc := 30) C dX7_startAnew_30 rfl 0 rfl ?_
  obtain ⟨S1, h1, hm⟩ := o1_some hm
  refine q_callU (pc := 31) (k := 12) (As := []) (rest := []) (T := TX0) (owner := "Tessera$Store") (x := ⟨"Tessera$Store", "letAllGo", "()V"⟩) C (c_St_letAllGo_12 hi h1) (by decide) (ce_12 _ _ _) (ci := 0) rfl (Or.inl rfl) tw_138 tw_139 tw_141 tw_140 tw_62 tw_142 (nA := 0) (by decide +kernel) rfl (by decide) (Nat.le_of_ble_eq_true rfl) rfl dX7_startAnew_31 ?_
  refine q_aload_n (pc := 34) C dX7_startAnew_34 rfl 0 rfl ?_
  obtain ⟨S2, h2, hm⟩ := o1_some hm
  refine q_callU (pc := 35) (k := 12) (As := []) (rest := []) (T := TX0) (owner := "Tessera$Store") (x := ⟨"Tessera$Store", "forgetThings", "()V"⟩) C (c_Cop_forgetThings hi h2) (by decide) (ce_12 _ _ _) (ci := 0) rfl (Or.inr (Or.inl (by decide))) tw_146 tw_147 tw_149 tw_148 tw_26 tw_150 (nA := 0) (by decide +kernel) rfl (by decide) (Nat.le_of_ble_eq_true rfl) rfl dX7_startAnew_35 ?_
  refine q_aload_n (pc := 38) C dX7_startAnew_38 rfl 0 rfl ?_
  obtain ⟨u1, h3, hm⟩ := o1_some hm
  refine q_callU (pc := 39) (k := 12) (As := []) (rest := []) (T := TX0) (owner := "Tessera$Store") (x := ⟨"Tessera$Store", "resetCounters", "()V"⟩) C (c_St_resetCounters_Cop_12 hi h3) (by decide) (ce_12 _ _ _) (ci := 0) rfl (Or.inl rfl) tw_169 tw_170 tw_172 tw_171 tw_62 tw_173 (nA := 0) (by decide +kernel) rfl (by decide) (Nat.le_of_ble_eq_true rfl) rfl dX7_startAnew_39 ?_
  cases hm
  exact q_vret (pc := 42) C dX7_startAnew_42
set_option maxRecDepth 100000 in
theorem w_St_letAllGo_18_L2 {G : Gx} (hi : qinj (gad G)) {X : Cx} (C : QC G X cX7_letAllGo 2 RX7 0 0 none) {Q : State → Prop} : ∀ (n : Nat) (S : St) (v1 : Int32) (zS : St), m_St_letAllGo_L2 18 0 n S v1 = some zS → QW G X 2 Q 21 [] [] zS → QW G X 2 Q 2 [(0, .ref (gad G 18)), (1, .int v1)] [] S := by
  intro n
  induction n with
  | zero =>
    intro S v1 zS hm kk
    rw [m_St_letAllGo_L2] at hm
    cases hm
  | succ n ih =>
    intro S v1 zS hm kk
    rw [m_St_letAllGo_L2] at hm
    refine q_iload_n (pc := 2) C dX7_letAllGo_2 rfl 1 rfl ?_
    refine q_bipush (pc := 3) (v := (80 : Int32)) C dX7_letAllGo_3 (by decide) ?_
    refine q_icmp_ge (pc := 5) (tgt := 21) C dX7_letAllGo_5 (by decide) (fun c1 => ?_) (fun c1 => ?_)
    · replace hm := hm_t c1 hm
      cases hm
      refine q_lv (lv' := []) [] rfl ?_
      exact kk
    · replace hm := hm_f c1 hm
      refine q_aload_n (pc := 8) C dX7_letAllGo_8 rfl 0 rfl ?_
      refine q_get (pc := 9) (T := TX4) (v := .ref (gad G 19)) C (by decide) (ce_18 _ _ _) (ci := 4) rfl inlX4 (j := 7) (by decide) rfl tw_65 (Or.inl rfl) dX7_letAllGo_9 ?_
      refine q_iload_n (pc := 12) C dX7_letAllGo_12 rfl 1 rfl ?_
      refine q_iconst (pc := 13) (v := (0 : Int32)) C dX7_letAllGo_13 (by decide) ?_
      obtain ⟨b1, hm⟩ := oi_some hm
      refine q_zast0 (pc := 14) C (by decide) (fun _ => ce_19 _ _ _) (ty_19 _) b1 dX7_letAllGo_14 ?_
      refine q_iinc (pc := 15) (k := 1) (v := (v1 + (1 : Int32))) (lv' := [(1, .int (v1 + (1 : Int32))), (0, .ref (gad G 18))]) C dX7_letAllGo_15 rfl rfl (by decide) rfl ?_
      refine q_goto (pc := 18) (tgt := 2) C dX7_letAllGo_18 (by decide) ?_
      refine q_lv (lv' := [(0, .ref (gad G 18)), (1, .int (v1 + (1 : Int32)))]) [1, 0] rfl ?_
      exact ih _ _ _ hm kk
set_option maxRecDepth 100000 in
theorem c_St_letAllGo_18 {G : Gx} (hi : qinj (gad G)) {S : St}  {zS : St} (hm : m_St_letAllGo 18 0 S  = some zS) : QMet G yX7_letAllGo cX7_letAllGo 2 none 0 0 [.ref (gad G 18)] S none zS := by
  refine q_entry (by decide +kernel) rfl hi (Nat.le_of_ble_eq_true rfl) ?_
  intro X C
  refine q_lv (lv' := [(0, .ref (gad G 18))]) [0] rfl ?_
  unfold m_St_letAllGo at hm
  refine q_iconst (pc := 0) (v := (0 : Int32)) C dX7_letAllGo_0 (by decide) ?_
  refine q_istore_n (pc := 1) (lv' := [(1, .int (0 : Int32)), (0, .ref (gad G 18))]) C dX7_letAllGo_1 rfl (by decide) rfl ?_
  refine q_lv (lv' := [(0, .ref (gad G 18)), (1, .int (0 : Int32))]) [1, 0] rfl ?_
  obtain ⟨S1, h1, hm⟩ := o1_some hm
  refine w_St_letAllGo_18_L2 hi C 200 _ _ _ h1 ?_
  cases hm
  exact q_vret (pc := 21) C dX7_letAllGo_21
set_option maxRecDepth 100000 in
theorem w_Row_empty_21_L2 {G : Gx} (hi : qinj (gad G)) {X : Cx} (C : QC G X cX5_empty 2 RX5 0 0 none) {Q : State → Prop} : ∀ (n : Nat) (S : St) (v1 : Int32) (zS : St), m_Row_empty_L2 21 n S v1 = some zS → QW G X 2 Q 21 [(0, .ref (gad G 21))] [] zS → QW G X 2 Q 2 [(0, .ref (gad G 21)), (1, .int v1)] [] S := by
  intro n
  induction n with
  | zero =>
    intro S v1 zS hm kk
    rw [m_Row_empty_L2] at hm
    cases hm
  | succ n ih =>
    intro S v1 zS hm kk
    rw [m_Row_empty_L2] at hm
    refine q_iload_n (pc := 2) C dX5_empty_2 rfl 1 rfl ?_
    refine q_bipush (pc := 3) (v := (80 : Int32)) C dX5_empty_3 (by decide) ?_
    refine q_icmp_ge (pc := 5) (tgt := 21) C dX5_empty_5 (by decide) (fun c1 => ?_) (fun c1 => ?_)
    · replace hm := hm_t c1 hm
      cases hm
      refine q_lv (lv' := [(0, .ref (gad G 21))]) [0] rfl ?_
      exact kk
    · replace hm := hm_f c1 hm
      refine q_aload_n (pc := 8) C dX5_empty_8 rfl 0 rfl ?_
      refine q_get (pc := 9) (T := TX5) (v := .ref (gad G 23)) C (by decide) (ce_21 _ _ _) (ci := 5) rfl inlX5 (j := 1) (by decide) rfl tw_50 (Or.inl rfl) dX5_empty_9 ?_
      refine q_iload_n (pc := 12) C dX5_empty_12 rfl 1 rfl ?_
      refine q_iconst (pc := 13) (v := (0 : Int32)) C dX5_empty_13 (by decide) ?_
      obtain ⟨b1, hm⟩ := oi_some hm
      refine q_zast0 (pc := 14) C (by decide) (fun _ => ce_23 _ _ _) (ty_23 _) b1 dX5_empty_14 ?_
      refine q_iinc (pc := 15) (k := 1) (v := (v1 + (1 : Int32))) (lv' := [(1, .int (v1 + (1 : Int32))), (0, .ref (gad G 21))]) C dX5_empty_15 rfl rfl (by decide) rfl ?_
      refine q_goto (pc := 18) (tgt := 2) C dX5_empty_18 (by decide) ?_
      refine q_lv (lv' := [(0, .ref (gad G 21)), (1, .int (v1 + (1 : Int32)))]) [1, 0] rfl ?_
      exact ih _ _ _ hm kk
set_option maxRecDepth 100000 in
theorem c_Row_empty_21 {G : Gx} (hi : qinj (gad G)) {S : St}  {zS : St} (hm : m_Row_empty 21 S  = some zS) : QMet G yX5_empty cX5_empty 2 none 0 0 [.ref (gad G 21)] S none zS := by
  refine q_entry (by decide +kernel) rfl hi (Nat.le_of_ble_eq_true rfl) ?_
  intro X C
  refine q_lv (lv' := [(0, .ref (gad G 21))]) [0] rfl ?_
  unfold m_Row_empty at hm
  refine q_iconst (pc := 0) (v := (0 : Int32)) C dX5_empty_0 (by decide) ?_
  refine q_istore_n (pc := 1) (lv' := [(1, .int (0 : Int32)), (0, .ref (gad G 21))]) C dX5_empty_1 rfl (by decide) rfl ?_
  refine q_lv (lv' := [(0, .ref (gad G 21)), (1, .int (0 : Int32))]) [1, 0] rfl ?_
  obtain ⟨S1, h1, hm⟩ := o1_some hm
  refine w_Row_empty_21_L2 hi C 200 _ _ _ h1 ?_
  refine q_aload_n (pc := 21) C dX5_empty_21 rfl 0 rfl ?_
  refine q_iconst (pc := 22) (v := (0 : Int32)) C dX5_empty_22 (by decide) ?_
  refine q_put (pc := 23) (T := TX5) (ty := .int) C tyX5 tyX5_ok nmX5 (by decide) (ce_21 _ _ _) (pe_21_2 _ _ _ _) (ci := 5) rfl inlX5 (j := 2) (by decide) (Nat.le_of_ble_eq_true rfl) tw_127 (Or.inl rfl) rfl (by decide +kernel) rfl rfl dX5_empty_23 ?_
  cases hm
  exact q_vret (pc := 26) C dX5_empty_26
set_option maxRecDepth 100000 in
theorem w_Row_empty_24_L2 {G : Gx} (hi : qinj (gad G)) {X : Cx} (C : QC G X cX5_empty 2 RX5 0 0 none) {Q : State → Prop} : ∀ (n : Nat) (S : St) (v1 : Int32) (zS : St), m_Row_empty_L2 24 n S v1 = some zS → QW G X 2 Q 21 [(0, .ref (gad G 24))] [] zS → QW G X 2 Q 2 [(0, .ref (gad G 24)), (1, .int v1)] [] S := by
  intro n
  induction n with
  | zero =>
    intro S v1 zS hm kk
    rw [m_Row_empty_L2] at hm
    cases hm
  | succ n ih =>
    intro S v1 zS hm kk
    rw [m_Row_empty_L2] at hm
    refine q_iload_n (pc := 2) C dX5_empty_2 rfl 1 rfl ?_
    refine q_bipush (pc := 3) (v := (80 : Int32)) C dX5_empty_3 (by decide) ?_
    refine q_icmp_ge (pc := 5) (tgt := 21) C dX5_empty_5 (by decide) (fun c1 => ?_) (fun c1 => ?_)
    · replace hm := hm_t c1 hm
      cases hm
      refine q_lv (lv' := [(0, .ref (gad G 24))]) [0] rfl ?_
      exact kk
    · replace hm := hm_f c1 hm
      refine q_aload_n (pc := 8) C dX5_empty_8 rfl 0 rfl ?_
      refine q_get (pc := 9) (T := TX5) (v := .ref (gad G 26)) C (by decide) (ce_24 _ _ _) (ci := 5) rfl inlX5 (j := 1) (by decide) rfl tw_50 (Or.inl rfl) dX5_empty_9 ?_
      refine q_iload_n (pc := 12) C dX5_empty_12 rfl 1 rfl ?_
      refine q_iconst (pc := 13) (v := (0 : Int32)) C dX5_empty_13 (by decide) ?_
      obtain ⟨b1, hm⟩ := oi_some hm
      refine q_zast0 (pc := 14) C (by decide) (fun _ => ce_26 _ _ _) (ty_26 _) b1 dX5_empty_14 ?_
      refine q_iinc (pc := 15) (k := 1) (v := (v1 + (1 : Int32))) (lv' := [(1, .int (v1 + (1 : Int32))), (0, .ref (gad G 24))]) C dX5_empty_15 rfl rfl (by decide) rfl ?_
      refine q_goto (pc := 18) (tgt := 2) C dX5_empty_18 (by decide) ?_
      refine q_lv (lv' := [(0, .ref (gad G 24)), (1, .int (v1 + (1 : Int32)))]) [1, 0] rfl ?_
      exact ih _ _ _ hm kk
set_option maxRecDepth 100000 in
theorem c_Row_empty_24 {G : Gx} (hi : qinj (gad G)) {S : St}  {zS : St} (hm : m_Row_empty 24 S  = some zS) : QMet G yX5_empty cX5_empty 2 none 0 0 [.ref (gad G 24)] S none zS := by
  refine q_entry (by decide +kernel) rfl hi (Nat.le_of_ble_eq_true rfl) ?_
  intro X C
  refine q_lv (lv' := [(0, .ref (gad G 24))]) [0] rfl ?_
  unfold m_Row_empty at hm
  refine q_iconst (pc := 0) (v := (0 : Int32)) C dX5_empty_0 (by decide) ?_
  refine q_istore_n (pc := 1) (lv' := [(1, .int (0 : Int32)), (0, .ref (gad G 24))]) C dX5_empty_1 rfl (by decide) rfl ?_
  refine q_lv (lv' := [(0, .ref (gad G 24)), (1, .int (0 : Int32))]) [1, 0] rfl ?_
  obtain ⟨S1, h1, hm⟩ := o1_some hm
  refine w_Row_empty_24_L2 hi C 200 _ _ _ h1 ?_
  refine q_aload_n (pc := 21) C dX5_empty_21 rfl 0 rfl ?_
  refine q_iconst (pc := 22) (v := (0 : Int32)) C dX5_empty_22 (by decide) ?_
  refine q_put (pc := 23) (T := TX5) (ty := .int) C tyX5 tyX5_ok nmX5 (by decide) (ce_24 _ _ _) (pe_24_2 _ _ _ _) (ci := 5) rfl inlX5 (j := 2) (by decide) (Nat.le_of_ble_eq_true rfl) tw_127 (Or.inl rfl) rfl (by decide +kernel) rfl rfl dX5_empty_23 ?_
  cases hm
  exact q_vret (pc := 26) C dX5_empty_26
set_option maxRecDepth 100000 in
theorem c_Nur_forgetThings {G : Gx} (hi : qinj (gad G)) {S : St}  {zS : St} (hm : m_Nur_forgetThings S  = some zS) : QMet G yX4_forgetThings cX4_forgetThings 1 none 1 21 [.ref (gad G 18)] S none zS := by
  refine q_entry (by decide +kernel) rfl hi (Nat.le_of_ble_eq_true rfl) ?_
  intro X C
  refine q_lv (lv' := [(0, .ref (gad G 18))]) [0] rfl ?_
  unfold m_Nur_forgetThings at hm
  refine q_aload_n (pc := 0) C dX4_forgetThings_0 rfl 0 rfl ?_
  refine q_get (pc := 1) (T := TX4) (v := .ref (gad G 21)) C (by decide) (ce_18 _ _ _) (ci := 4) rfl inlX4 (j := 11) (by decide) rfl tw_55 (Or.inl rfl) dX4_forgetThings_1 ?_
  obtain ⟨S1, h1, hm⟩ := o1_some hm
  refine q_callV (pc := 4) (k := 21) (As := []) (rest := []) (T := TX5) C (c_Row_empty_21 hi h1) (by decide) (ce_21 _ _ _) (ci := 5) rfl tw_168 tw_124 tw_125 tw_43 tw_126 (nA := 0) (by decide +kernel) rfl (by decide) (Nat.le_of_ble_eq_true rfl) rfl dX4_forgetThings_4 ?_
  refine q_aload_n (pc := 7) C dX4_forgetThings_7 rfl 0 rfl ?_
  refine q_get (pc := 8) (T := TX4) (v := .ref (gad G 24)) C (by decide) (ce_18 _ _ _) (ci := 4) rfl inlX4 (j := 12) (by decide) rfl tw_56 (Or.inl rfl) dX4_forgetThings_8 ?_
  obtain ⟨S2, h2, hm⟩ := o1_some hm
  refine q_callV (pc := 11) (k := 24) (As := []) (rest := []) (T := TX5) C (c_Row_empty_24 hi h2) (by decide) (ce_24 _ _ _) (ci := 5) rfl tw_168 tw_124 tw_125 tw_43 tw_126 (nA := 0) (by decide +kernel) rfl (by decide) (Nat.le_of_ble_eq_true rfl) rfl dX4_forgetThings_11 ?_
  refine q_aload_n (pc := 14) C dX4_forgetThings_14 rfl 0 rfl ?_
  refine q_iconst (pc := 15) (v := (0 : Int32)) C dX4_forgetThings_15 (by decide) ?_
  refine q_put (pc := 16) (T := TX4) (ty := .int) C tyX4 tyX4_ok nmX4 (by decide) (ce_18 _ _ _) (pe_18_15 _ _ _ _) (ci := 4) rfl inlX4 (j := 15) (by decide) (Nat.le_of_ble_eq_true rfl) tw_165 (Or.inl rfl) rfl (by decide +kernel) rfl rfl dX4_forgetThings_16 ?_
  refine q_aload_n (pc := 19) C dX4_forgetThings_19 rfl 0 rfl ?_
  refine q_aload_n (pc := 20) C dX4_forgetThings_20 rfl 0 rfl ?_
  refine q_get (pc := 21) (T := TX4) (v := .int (S2 18 1)) C (by decide) (ce_18 _ _ _) (ci := 4) rfl inlX4 (j := 1) (by decide) rfl tw_166 (Or.inr tw_167) dX4_forgetThings_21 ?_
  refine q_iconst (pc := 24) (v := (4 : Int32)) C dX4_forgetThings_24 (by decide) ?_
  refine q_idiv (pc := 25) C dX4_forgetThings_25 (by decide) ?_
  refine q_put (pc := 26) (T := TX4) (ty := .int) C tyX4 tyX4_ok nmX4 (by decide) (ce_18 _ _ _) (pe_18_16 _ _ _ _) (ci := 4) rfl inlX4 (j := 16) (by decide) (Nat.le_of_ble_eq_true rfl) tw_59 (Or.inl rfl) rfl (by decide +kernel) rfl rfl dX4_forgetThings_26 ?_
  cases hm
  exact q_vret (pc := 29) C dX4_forgetThings_29
set_option maxRecDepth 100000 in
theorem c_Nur_resetCounters {G : Gx} (hi : qinj (gad G)) {S : St}  {zS : St} (hm : m_Nur_resetCounters S  = some zS) : QMet G yX4_resetCounters cX4_resetCounters 1 none 0 0 [.ref (gad G 18)] S none zS := by
  refine q_entry (by decide +kernel) rfl hi (Nat.le_of_ble_eq_true rfl) ?_
  intro X C
  refine q_lv (lv' := [(0, .ref (gad G 18))]) [0] rfl ?_
  unfold m_Nur_resetCounters at hm
  refine q_aload_n (pc := 0) C dX4_resetCounters_0 rfl 0 rfl ?_
  refine q_iconst (pc := 1) (v := (0 : Int32)) C dX4_resetCounters_1 (by decide) ?_
  refine q_put (pc := 2) (T := TX4) (ty := .int) C tyX4 tyX4_ok nmX4 (by decide) (ce_18 _ _ _) (pe_18_9 _ _ _ _) (ci := 4) rfl inlX4 (j := 9) (by decide) (Nat.le_of_ble_eq_true rfl) tw_183 (Or.inl rfl) rfl (by decide +kernel) rfl rfl dX4_resetCounters_2 ?_
  refine q_aload_n (pc := 5) C dX4_resetCounters_5 rfl 0 rfl ?_
  refine q_iconst (pc := 6) (v := (0 : Int32)) C dX4_resetCounters_6 (by decide) ?_
  refine q_put (pc := 7) (T := TX4) (ty := .int) C tyX4 tyX4_ok nmX4 (by decide) (ce_18 _ _ _) (pe_18_10 _ _ _ _) (ci := 4) rfl inlX4 (j := 10) (by decide) (Nat.le_of_ble_eq_true rfl) tw_184 (Or.inl rfl) rfl (by decide +kernel) rfl rfl dX4_resetCounters_7 ?_
  cases hm
  exact q_vret (pc := 10) C dX4_resetCounters_10
set_option maxRecDepth 100000 in
theorem c_St_startAnew_Nur_18 {G : Gx} (hi : qinj (gad G)) {S : St} {a1 : Int32} {zS : St} (hm : m_St_startAnew_Nur S a1 = some zS) : QMet G yX7_startAnew cX7_startAnew 2 none 2 41 [.ref (gad G 18), .int a1] S none zS := by
  refine q_entry (by decide +kernel) rfl hi (Nat.le_of_ble_eq_true rfl) ?_
  intro X C
  refine q_lv (lv' := [(0, .ref (gad G 18)), (1, .int a1)]) [0, 1] rfl ?_
  unfold m_St_startAnew_Nur at hm
  refine q_aload_n (pc := 0) C dX7_startAnew_0 rfl 0 rfl ?_
  refine q_iload_n (pc := 1) C dX7_startAnew_1 rfl 1 rfl ?_
  refine q_put (pc := 2) (T := TX4) (ty := .int) C tyX4 tyX4_ok nmX4 (by decide) (ce_18 _ _ _) (pe_18_1 _ _ _ _) (ci := 4) rfl inlX4 (j := 1) (by decide) (Nat.le_of_ble_eq_true rfl) tw_68 (Or.inl rfl) rfl (by decide +kernel) rfl rfl dX7_startAnew_2 ?_
  refine q_aload_n (pc := 5) C dX7_startAnew_5 rfl 0 rfl ?_
  refine q_iconst (pc := 6) (v := (0 : Int32)) C dX7_startAnew_6 (by decide) ?_
  refine q_put (pc := 7) (T := TX4) (ty := .int) C tyX4 tyX4_ok nmX4 (by decide) (ce_18 _ _ _) (pe_18_2 _ _ _ _) (ci := 4) rfl inlX4 (j := 2) (by decide) (Nat.le_of_ble_eq_true rfl) tw_133 (Or.inl rfl) rfl (by decide +kernel) rfl rfl dX7_startAnew_7 ?_
  refine q_aload_n (pc := 10) C dX7_startAnew_10 rfl 0 rfl ?_
  refine q_iconst (pc := 11) (v := (0 : Int32)) C dX7_startAnew_11 (by decide) ?_
  refine q_put (pc := 12) (T := TX4) (ty := .int) C tyX4 tyX4_ok nmX4 (by decide) (ce_18 _ _ _) (pe_18_3 _ _ _ _) (ci := 4) rfl inlX4 (j := 3) (by decide) (Nat.le_of_ble_eq_true rfl) tw_134 (Or.inl rfl) rfl (by decide +kernel) rfl rfl dX7_startAnew_12 ?_
  refine q_aload_n (pc := 15) C dX7_startAnew_15 rfl 0 rfl ?_
  refine q_iconst (pc := 16) (v := (0 : Int32)) C dX7_startAnew_16 (by decide) ?_
  refine q_put (pc := 17) (T := TX4) (ty := .int) C tyX4 tyX4_ok nmX4 (by decide) (ce_18 _ _ _) (pe_18_4 _ _ _ _) (ci := 4) rfl inlX4 (j := 4) (by decide) (Nat.le_of_ble_eq_true rfl) tw_135 (Or.inl rfl) rfl (by decide +kernel) rfl rfl dX7_startAnew_17 ?_
  refine q_aload_n (pc := 20) C dX7_startAnew_20 rfl 0 rfl ?_
  refine q_iconst (pc := 21) (v := (0 : Int32)) C dX7_startAnew_21 (by decide) ?_
  refine q_put (pc := 22) (T := TX4) (ty := .boolean) C tyX4 tyX4_ok nmX4 (by decide) (ce_18 _ _ _) (pe_18_5 _ _ _ _) (ci := 4) rfl inlX4 (j := 5) (by decide) (Nat.le_of_ble_eq_true rfl) tw_136 (Or.inl rfl) rfl (by decide +kernel) (by decide) (by decide) dX7_startAnew_22 ?_
  refine q_aload_n (pc := 25) C dX7_startAnew_25 rfl 0 rfl ?_
  refine q_iconst (pc := 26) (v := (0 : Int32)) C dX7_startAnew_26 (by decide) ?_
  refine q_put (pc := 27) (T := TX4) (ty := .int) C tyX4 tyX4_ok nmX4 (by decide) (ce_18 _ _ _) (pe_18_6 _ _ _ _) (ci := 4) rfl inlX4 (j := 6) (by decide) (Nat.le_of_ble_eq_true rfl) tw_137 (Or.inl rfl) rfl (by decide +kernel) rfl rfl dX7_startAnew_27 ?_
  refine q_aload_n (pc := 30) C dX7_startAnew_30 rfl 0 rfl ?_
  obtain ⟨S1, h1, hm⟩ := o1_some hm
  refine q_callU (pc := 31) (k := 18) (As := []) (rest := []) (T := TX4) (owner := "Tessera$Store") (x := ⟨"Tessera$Store", "letAllGo", "()V"⟩) C (c_St_letAllGo_18 hi h1) (by decide) (ce_18 _ _ _) (ci := 4) rfl (Or.inl rfl) tw_138 tw_139 tw_141 tw_145 tw_62 tw_142 (nA := 0) (by decide +kernel) rfl (by decide) (Nat.le_of_ble_eq_true rfl) rfl dX7_startAnew_31 ?_
  refine q_aload_n (pc := 34) C dX7_startAnew_34 rfl 0 rfl ?_
  obtain ⟨S2, h2, hm⟩ := o1_some hm
  refine q_callU (pc := 35) (k := 18) (As := []) (rest := []) (T := TX4) (owner := "Tessera$Store") (x := ⟨"Tessera$Store", "forgetThings", "()V"⟩) C (c_Nur_forgetThings hi h2) (by decide) (ce_18 _ _ _) (ci := 4) rfl (Or.inr (Or.inl (by decide))) tw_146 tw_147 tw_163 tw_162 tw_16 tw_164 (nA := 0) (by decide +kernel) rfl (by decide) (Nat.le_of_ble_eq_true rfl) rfl dX7_startAnew_35 ?_
  refine q_aload_n (pc := 38) C dX7_startAnew_38 rfl 0 rfl ?_
  obtain ⟨S3, h3, hm⟩ := o1_some hm
  refine q_callU (pc := 39) (k := 18) (As := []) (rest := []) (T := TX4) (owner := "Tessera$Store") (x := ⟨"Tessera$Store", "resetCounters", "()V"⟩) C (c_Nur_resetCounters hi h3) (by decide) (ce_18 _ _ _) (ci := 4) rfl (Or.inr (Or.inr ⟨_, _, _, tw_174, tw_173⟩)) tw_169 tw_170 tw_181 tw_180 tw_16 tw_182 (nA := 0) (by decide +kernel) rfl (by decide) (Nat.le_of_ble_eq_true rfl) rfl dX7_startAnew_39 ?_
  cases hm
  exact q_vret (pc := 42) C dX7_startAnew_42
set_option maxRecDepth 100000 in
theorem w_St_letAllGo_31_L2 {G : Gx} (hi : qinj (gad G)) {X : Cx} (C : QC G X cX7_letAllGo 2 RX7 0 0 none) {Q : State → Prop} : ∀ (n : Nat) (S : St) (v1 : Int32) (zS : St), m_St_letAllGo_L2 31 1 n S v1 = some zS → QW G X 2 Q 21 [] [] zS → QW G X 2 Q 2 [(0, .ref (gad G 31)), (1, .int v1)] [] S := by
  intro n
  induction n with
  | zero =>
    intro S v1 zS hm kk
    rw [m_St_letAllGo_L2] at hm
    cases hm
  | succ n ih =>
    intro S v1 zS hm kk
    rw [m_St_letAllGo_L2] at hm
    refine q_iload_n (pc := 2) C dX7_letAllGo_2 rfl 1 rfl ?_
    refine q_bipush (pc := 3) (v := (80 : Int32)) C dX7_letAllGo_3 (by decide) ?_
    refine q_icmp_ge (pc := 5) (tgt := 21) C dX7_letAllGo_5 (by decide) (fun c1 => ?_) (fun c1 => ?_)
    · replace hm := hm_t c1 hm
      cases hm
      refine q_lv (lv' := []) [] rfl ?_
      exact kk
    · replace hm := hm_f c1 hm
      refine q_aload_n (pc := 8) C dX7_letAllGo_8 rfl 0 rfl ?_
      refine q_get (pc := 9) (T := TX3) (v := .ref (gad G 32)) C (by decide) (ce_31 _ _ _) (ci := 3) rfl inlX3 (j := 8) (by decide) rfl tw_65 (Or.inl rfl) dX7_letAllGo_9 ?_
      refine q_iload_n (pc := 12) C dX7_letAllGo_12 rfl 1 rfl ?_
      refine q_iconst (pc := 13) (v := (0 : Int32)) C dX7_letAllGo_13 (by decide) ?_
      obtain ⟨b1, hm⟩ := oi_some hm
      refine q_zast0 (pc := 14) C (by decide) (fun _ => ce_32 _ _ _) (ty_32 _) b1 dX7_letAllGo_14 ?_
      refine q_iinc (pc := 15) (k := 1) (v := (v1 + (1 : Int32))) (lv' := [(1, .int (v1 + (1 : Int32))), (0, .ref (gad G 31))]) C dX7_letAllGo_15 rfl rfl (by decide) rfl ?_
      refine q_goto (pc := 18) (tgt := 2) C dX7_letAllGo_18 (by decide) ?_
      refine q_lv (lv' := [(0, .ref (gad G 31)), (1, .int (v1 + (1 : Int32)))]) [1, 0] rfl ?_
      exact ih _ _ _ hm kk
set_option maxRecDepth 100000 in
theorem c_St_letAllGo_31 {G : Gx} (hi : qinj (gad G)) {S : St}  {zS : St} (hm : m_St_letAllGo 31 1 S  = some zS) : QMet G yX7_letAllGo cX7_letAllGo 2 none 0 0 [.ref (gad G 31)] S none zS := by
  refine q_entry (by decide +kernel) rfl hi (Nat.le_of_ble_eq_true rfl) ?_
  intro X C
  refine q_lv (lv' := [(0, .ref (gad G 31))]) [0] rfl ?_
  unfold m_St_letAllGo at hm
  refine q_iconst (pc := 0) (v := (0 : Int32)) C dX7_letAllGo_0 (by decide) ?_
  refine q_istore_n (pc := 1) (lv' := [(1, .int (0 : Int32)), (0, .ref (gad G 31))]) C dX7_letAllGo_1 rfl (by decide) rfl ?_
  refine q_lv (lv' := [(0, .ref (gad G 31)), (1, .int (0 : Int32))]) [1, 0] rfl ?_
  obtain ⟨S1, h1, hm⟩ := o1_some hm
  refine w_St_letAllGo_31_L2 hi C 200 _ _ _ h1 ?_
  cases hm
  exact q_vret (pc := 21) C dX7_letAllGo_21
set_option maxRecDepth 100000 in
theorem w_Row_empty_36_L2 {G : Gx} (hi : qinj (gad G)) {X : Cx} (C : QC G X cX5_empty 2 RX5 0 0 none) {Q : State → Prop} : ∀ (n : Nat) (S : St) (v1 : Int32) (zS : St), m_Row_empty_L2 36 n S v1 = some zS → QW G X 2 Q 21 [(0, .ref (gad G 36))] [] zS → QW G X 2 Q 2 [(0, .ref (gad G 36)), (1, .int v1)] [] S := by
  intro n
  induction n with
  | zero =>
    intro S v1 zS hm kk
    rw [m_Row_empty_L2] at hm
    cases hm
  | succ n ih =>
    intro S v1 zS hm kk
    rw [m_Row_empty_L2] at hm
    refine q_iload_n (pc := 2) C dX5_empty_2 rfl 1 rfl ?_
    refine q_bipush (pc := 3) (v := (80 : Int32)) C dX5_empty_3 (by decide) ?_
    refine q_icmp_ge (pc := 5) (tgt := 21) C dX5_empty_5 (by decide) (fun c1 => ?_) (fun c1 => ?_)
    · replace hm := hm_t c1 hm
      cases hm
      refine q_lv (lv' := [(0, .ref (gad G 36))]) [0] rfl ?_
      exact kk
    · replace hm := hm_f c1 hm
      refine q_aload_n (pc := 8) C dX5_empty_8 rfl 0 rfl ?_
      refine q_get (pc := 9) (T := TX5) (v := .ref (gad G 38)) C (by decide) (ce_36 _ _ _) (ci := 5) rfl inlX5 (j := 1) (by decide) rfl tw_50 (Or.inl rfl) dX5_empty_9 ?_
      refine q_iload_n (pc := 12) C dX5_empty_12 rfl 1 rfl ?_
      refine q_iconst (pc := 13) (v := (0 : Int32)) C dX5_empty_13 (by decide) ?_
      obtain ⟨b1, hm⟩ := oi_some hm
      refine q_zast0 (pc := 14) C (by decide) (fun _ => ce_38 _ _ _) (ty_38 _) b1 dX5_empty_14 ?_
      refine q_iinc (pc := 15) (k := 1) (v := (v1 + (1 : Int32))) (lv' := [(1, .int (v1 + (1 : Int32))), (0, .ref (gad G 36))]) C dX5_empty_15 rfl rfl (by decide) rfl ?_
      refine q_goto (pc := 18) (tgt := 2) C dX5_empty_18 (by decide) ?_
      refine q_lv (lv' := [(0, .ref (gad G 36)), (1, .int (v1 + (1 : Int32)))]) [1, 0] rfl ?_
      exact ih _ _ _ hm kk
set_option maxRecDepth 100000 in
theorem c_Row_empty_36 {G : Gx} (hi : qinj (gad G)) {S : St}  {zS : St} (hm : m_Row_empty 36 S  = some zS) : QMet G yX5_empty cX5_empty 2 none 0 0 [.ref (gad G 36)] S none zS := by
  refine q_entry (by decide +kernel) rfl hi (Nat.le_of_ble_eq_true rfl) ?_
  intro X C
  refine q_lv (lv' := [(0, .ref (gad G 36))]) [0] rfl ?_
  unfold m_Row_empty at hm
  refine q_iconst (pc := 0) (v := (0 : Int32)) C dX5_empty_0 (by decide) ?_
  refine q_istore_n (pc := 1) (lv' := [(1, .int (0 : Int32)), (0, .ref (gad G 36))]) C dX5_empty_1 rfl (by decide) rfl ?_
  refine q_lv (lv' := [(0, .ref (gad G 36)), (1, .int (0 : Int32))]) [1, 0] rfl ?_
  obtain ⟨S1, h1, hm⟩ := o1_some hm
  refine w_Row_empty_36_L2 hi C 200 _ _ _ h1 ?_
  refine q_aload_n (pc := 21) C dX5_empty_21 rfl 0 rfl ?_
  refine q_iconst (pc := 22) (v := (0 : Int32)) C dX5_empty_22 (by decide) ?_
  refine q_put (pc := 23) (T := TX5) (ty := .int) C tyX5 tyX5_ok nmX5 (by decide) (ce_36 _ _ _) (pe_36_2 _ _ _ _) (ci := 5) rfl inlX5 (j := 2) (by decide) (Nat.le_of_ble_eq_true rfl) tw_127 (Or.inl rfl) rfl (by decide +kernel) rfl rfl dX5_empty_23 ?_
  cases hm
  exact q_vret (pc := 26) C dX5_empty_26
set_option maxRecDepth 100000 in
theorem c_Mar_forgetThings {G : Gx} (hi : qinj (gad G)) {S : St}  {zS : St} (hm : m_Mar_forgetThings S  = some zS) : QMet G yX3_forgetThings cX3_forgetThings 1 none 1 21 [.ref (gad G 31)] S none zS := by
  refine q_entry (by decide +kernel) rfl hi (Nat.le_of_ble_eq_true rfl) ?_
  intro X C
  refine q_lv (lv' := [(0, .ref (gad G 31))]) [0] rfl ?_
  unfold m_Mar_forgetThings at hm
  refine q_aload_n (pc := 0) C dX3_forgetThings_0 rfl 0 rfl ?_
  refine q_iconst (pc := 1) (v := (0 : Int32)) C dX3_forgetThings_1 (by decide) ?_
  refine q_put (pc := 2) (T := TX3) (ty := .boolean) C tyX3 tyX3_ok nmX3 (by decide) (ce_31 _ _ _) (pe_31_10 _ _ _ _) (ci := 3) rfl inlX3 (j := 10) (by decide) (Nat.le_of_ble_eq_true rfl) tw_159 (Or.inl rfl) rfl (by decide +kernel) (by decide) (by decide) dX3_forgetThings_2 ?_
  refine q_aload_n (pc := 5) C dX3_forgetThings_5 rfl 0 rfl ?_
  refine q_get (pc := 6) (T := TX3) (v := .ref (gad G 36)) C (by decide) (ce_31 _ _ _) (ci := 3) rfl inlX3 (j := 12) (by decide) rfl tw_74 (Or.inl rfl) dX3_forgetThings_6 ?_
  obtain ⟨S1, h1, hm⟩ := o1_some hm
  refine q_callV (pc := 9) (k := 36) (As := []) (rest := []) (T := TX5) C (c_Row_empty_36 hi h1) (by decide) (ce_36 _ _ _) (ci := 5) rfl tw_161 tw_124 tw_125 tw_43 tw_126 (nA := 0) (by decide +kernel) rfl (by decide) (Nat.le_of_ble_eq_true rfl) rfl dX3_forgetThings_9 ?_
  refine q_aload_n (pc := 12) C dX3_forgetThings_12 rfl 0 rfl ?_
  refine q_iconst (pc := 13) (v := (0 : Int32)) C dX3_forgetThings_13 (by decide) ?_
  refine q_put (pc := 14) (T := TX3) (ty := .int) C tyX3 tyX3_ok nmX3 (by decide) (ce_31 _ _ _) (pe_31_14 _ _ _ _) (ci := 3) rfl inlX3 (j := 14) (by decide) (Nat.le_of_ble_eq_true rfl) tw_160 (Or.inl rfl) rfl (by decide +kernel) rfl rfl dX3_forgetThings_14 ?_
  cases hm
  exact q_vret (pc := 17) C dX3_forgetThings_17
set_option maxRecDepth 100000 in
theorem c_St_resetCounters_Mar_31 {G : Gx} (hi : qinj (gad G)) {S : St}  {zu : Unit} (hm : m_St_resetCounters_Mar S  = some zu) : QMet G yX7_resetCounters cX7_resetCounters 1 none 0 0 [.ref (gad G 31)] S none S := by
  refine q_entry (by decide +kernel) rfl hi (Nat.le_of_ble_eq_true rfl) ?_
  intro X C
  refine q_lv (lv' := [(0, .ref (gad G 31))]) [0] rfl ?_
  unfold m_St_resetCounters_Mar at hm
  cases hm
  exact q_vret (pc := 0) C dX7_resetCounters_0
set_option maxRecDepth 100000 in
theorem c_St_startAnew_Mar_31 {G : Gx} (hi : qinj (gad G)) {S : St} {a1 : Int32} {zS : St} (hm : m_St_startAnew_Mar S a1 = some zS) : QMet G yX7_startAnew cX7_startAnew 2 none 2 41 [.ref (gad G 31), .int a1] S none zS := by
  refine q_entry (by decide +kernel) rfl hi (Nat.le_of_ble_eq_true rfl) ?_
  intro X C
  refine q_lv (lv' := [(0, .ref (gad G 31)), (1, .int a1)]) [0, 1] rfl ?_
  unfold m_St_startAnew_Mar at hm
  refine q_aload_n (pc := 0) C dX7_startAnew_0 rfl 0 rfl ?_
  refine q_iload_n (pc := 1) C dX7_startAnew_1 rfl 1 rfl ?_
  refine q_put (pc := 2) (T := TX3) (ty := .int) C tyX3 tyX3_ok nmX3 (by decide) (ce_31 _ _ _) (pe_31_2 _ _ _ _) (ci := 3) rfl inlX3 (j := 2) (by decide) (Nat.le_of_ble_eq_true rfl) tw_68 (Or.inl rfl) rfl (by decide +kernel) rfl rfl dX7_startAnew_2 ?_
  refine q_aload_n (pc := 5) C dX7_startAnew_5 rfl 0 rfl ?_
  refine q_iconst (pc := 6) (v := (0 : Int32)) C dX7_startAnew_6 (by decide) ?_
  refine q_put (pc := 7) (T := TX3) (ty := .int) C tyX3 tyX3_ok nmX3 (by decide) (ce_31 _ _ _) (pe_31_3 _ _ _ _) (ci := 3) rfl inlX3 (j := 3) (by decide) (Nat.le_of_ble_eq_true rfl) tw_133 (Or.inl rfl) rfl (by decide +kernel) rfl rfl dX7_startAnew_7 ?_
  refine q_aload_n (pc := 10) C dX7_startAnew_10 rfl 0 rfl ?_
  refine q_iconst (pc := 11) (v := (0 : Int32)) C dX7_startAnew_11 (by decide) ?_
  refine q_put (pc := 12) (T := TX3) (ty := .int) C tyX3 tyX3_ok nmX3 (by decide) (ce_31 _ _ _) (pe_31_4 _ _ _ _) (ci := 3) rfl inlX3 (j := 4) (by decide) (Nat.le_of_ble_eq_true rfl) tw_134 (Or.inl rfl) rfl (by decide +kernel) rfl rfl dX7_startAnew_12 ?_
  refine q_aload_n (pc := 15) C dX7_startAnew_15 rfl 0 rfl ?_
  refine q_iconst (pc := 16) (v := (0 : Int32)) C dX7_startAnew_16 (by decide) ?_
  refine q_put (pc := 17) (T := TX3) (ty := .int) C tyX3 tyX3_ok nmX3 (by decide) (ce_31 _ _ _) (pe_31_5 _ _ _ _) (ci := 3) rfl inlX3 (j := 5) (by decide) (Nat.le_of_ble_eq_true rfl) tw_135 (Or.inl rfl) rfl (by decide +kernel) rfl rfl dX7_startAnew_17 ?_
  refine q_aload_n (pc := 20) C dX7_startAnew_20 rfl 0 rfl ?_
  refine q_iconst (pc := 21) (v := (0 : Int32)) C dX7_startAnew_21 (by decide) ?_
  refine q_put (pc := 22) (T := TX3) (ty := .boolean) C tyX3 tyX3_ok nmX3 (by decide) (ce_31 _ _ _) (pe_31_6 _ _ _ _) (ci := 3) rfl inlX3 (j := 6) (by decide) (Nat.le_of_ble_eq_true rfl) tw_136 (Or.inl rfl) rfl (by decide +kernel) (by decide) (by decide) dX7_startAnew_22 ?_
  refine q_aload_n (pc := 25) C dX7_startAnew_25 rfl 0 rfl ?_
  refine q_iconst (pc := 26) (v := (0 : Int32)) C dX7_startAnew_26 (by decide) ?_
  refine q_put (pc := 27) (T := TX3) (ty := .int) C tyX3 tyX3_ok nmX3 (by decide) (ce_31 _ _ _) (pe_31_7 _ _ _ _) (ci := 3) rfl inlX3 (j := 7) (by decide) (Nat.le_of_ble_eq_true rfl) tw_137 (Or.inl rfl) rfl (by decide +kernel) rfl rfl dX7_startAnew_27 ?_
  refine q_aload_n (pc := 30) C dX7_startAnew_30 rfl 0 rfl ?_
  obtain ⟨S1, h1, hm⟩ := o1_some hm
  refine q_callU (pc := 31) (k := 31) (As := []) (rest := []) (T := TX3) (owner := "Tessera$Store") (x := ⟨"Tessera$Store", "letAllGo", "()V"⟩) C (c_St_letAllGo_31 hi h1) (by decide) (ce_31 _ _ _) (ci := 3) rfl (Or.inl rfl) tw_138 tw_139 tw_141 tw_144 tw_62 tw_142 (nA := 0) (by decide +kernel) rfl (by decide) (Nat.le_of_ble_eq_true rfl) rfl dX7_startAnew_31 ?_
  refine q_aload_n (pc := 34) C dX7_startAnew_34 rfl 0 rfl ?_
  obtain ⟨S2, h2, hm⟩ := o1_some hm
  refine q_callU (pc := 35) (k := 31) (As := []) (rest := []) (T := TX3) (owner := "Tessera$Store") (x := ⟨"Tessera$Store", "forgetThings", "()V"⟩) C (c_Mar_forgetThings hi h2) (by decide) (ce_31 _ _ _) (ci := 3) rfl (Or.inr (Or.inl (by decide))) tw_146 tw_147 tw_157 tw_156 tw_19 tw_158 (nA := 0) (by decide +kernel) rfl (by decide) (Nat.le_of_ble_eq_true rfl) rfl dX7_startAnew_35 ?_
  refine q_aload_n (pc := 38) C dX7_startAnew_38 rfl 0 rfl ?_
  obtain ⟨u1, h3, hm⟩ := o1_some hm
  refine q_callU (pc := 39) (k := 31) (As := []) (rest := []) (T := TX3) (owner := "Tessera$Store") (x := ⟨"Tessera$Store", "resetCounters", "()V"⟩) C (c_St_resetCounters_Mar_31 hi h3) (by decide) (ce_31 _ _ _) (ci := 3) rfl (Or.inl rfl) tw_169 tw_170 tw_172 tw_179 tw_62 tw_173 (nA := 0) (by decide +kernel) rfl (by decide) (Nat.le_of_ble_eq_true rfl) rfl dX7_startAnew_39 ?_
  cases hm
  exact q_vret (pc := 42) C dX7_startAnew_42
set_option maxRecDepth 100000 in
theorem w_St_letAllGo_42_L2 {G : Gx} (hi : qinj (gad G)) {X : Cx} (C : QC G X cX7_letAllGo 2 RX7 0 0 none) {Q : State → Prop} : ∀ (n : Nat) (S : St) (v1 : Int32) (zS : St), m_St_letAllGo_L2 42 1 n S v1 = some zS → QW G X 2 Q 21 [] [] zS → QW G X 2 Q 2 [(0, .ref (gad G 42)), (1, .int v1)] [] S := by
  intro n
  induction n with
  | zero =>
    intro S v1 zS hm kk
    rw [m_St_letAllGo_L2] at hm
    cases hm
  | succ n ih =>
    intro S v1 zS hm kk
    rw [m_St_letAllGo_L2] at hm
    refine q_iload_n (pc := 2) C dX7_letAllGo_2 rfl 1 rfl ?_
    refine q_bipush (pc := 3) (v := (80 : Int32)) C dX7_letAllGo_3 (by decide) ?_
    refine q_icmp_ge (pc := 5) (tgt := 21) C dX7_letAllGo_5 (by decide) (fun c1 => ?_) (fun c1 => ?_)
    · replace hm := hm_t c1 hm
      cases hm
      refine q_lv (lv' := []) [] rfl ?_
      exact kk
    · replace hm := hm_f c1 hm
      refine q_aload_n (pc := 8) C dX7_letAllGo_8 rfl 0 rfl ?_
      refine q_get (pc := 9) (T := TX1) (v := .ref (gad G 43)) C (by decide) (ce_42 _ _ _) (ci := 1) rfl inlX1 (j := 8) (by decide) rfl tw_65 (Or.inl rfl) dX7_letAllGo_9 ?_
      refine q_iload_n (pc := 12) C dX7_letAllGo_12 rfl 1 rfl ?_
      refine q_iconst (pc := 13) (v := (0 : Int32)) C dX7_letAllGo_13 (by decide) ?_
      obtain ⟨b1, hm⟩ := oi_some hm
      refine q_zast0 (pc := 14) C (by decide) (fun _ => ce_43 _ _ _) (ty_43 _) b1 dX7_letAllGo_14 ?_
      refine q_iinc (pc := 15) (k := 1) (v := (v1 + (1 : Int32))) (lv' := [(1, .int (v1 + (1 : Int32))), (0, .ref (gad G 42))]) C dX7_letAllGo_15 rfl rfl (by decide) rfl ?_
      refine q_goto (pc := 18) (tgt := 2) C dX7_letAllGo_18 (by decide) ?_
      refine q_lv (lv' := [(0, .ref (gad G 42)), (1, .int (v1 + (1 : Int32)))]) [1, 0] rfl ?_
      exact ih _ _ _ hm kk
set_option maxRecDepth 100000 in
theorem c_St_letAllGo_42 {G : Gx} (hi : qinj (gad G)) {S : St}  {zS : St} (hm : m_St_letAllGo 42 1 S  = some zS) : QMet G yX7_letAllGo cX7_letAllGo 2 none 0 0 [.ref (gad G 42)] S none zS := by
  refine q_entry (by decide +kernel) rfl hi (Nat.le_of_ble_eq_true rfl) ?_
  intro X C
  refine q_lv (lv' := [(0, .ref (gad G 42))]) [0] rfl ?_
  unfold m_St_letAllGo at hm
  refine q_iconst (pc := 0) (v := (0 : Int32)) C dX7_letAllGo_0 (by decide) ?_
  refine q_istore_n (pc := 1) (lv' := [(1, .int (0 : Int32)), (0, .ref (gad G 42))]) C dX7_letAllGo_1 rfl (by decide) rfl ?_
  refine q_lv (lv' := [(0, .ref (gad G 42)), (1, .int (0 : Int32))]) [1, 0] rfl ?_
  obtain ⟨S1, h1, hm⟩ := o1_some hm
  refine w_St_letAllGo_42_L2 hi C 200 _ _ _ h1 ?_
  cases hm
  exact q_vret (pc := 21) C dX7_letAllGo_21
set_option maxRecDepth 100000 in
theorem w_Cou_forgetThings_L2 {G : Gx} (hi : qinj (gad G)) {X : Cx} (C : QC G X cX1_forgetThings 2 RX1 0 0 none) {Q : State → Prop} : ∀ (n : Nat) (S : St) (v1 : Int32) (zS : St), m_Cou_forgetThings_L2 n S v1 = some zS → QW G X 2 Q 21 [] [] zS → QW G X 2 Q 2 [(0, .ref (gad G 42)), (1, .int v1)] [] S := by
  intro n
  induction n with
  | zero =>
    intro S v1 zS hm kk
    rw [m_Cou_forgetThings_L2] at hm
    cases hm
  | succ n ih =>
    intro S v1 zS hm kk
    rw [m_Cou_forgetThings_L2] at hm
    refine q_iload_n (pc := 2) C dX1_forgetThings_2 rfl 1 rfl ?_
    refine q_bipush (pc := 3) (v := (80 : Int32)) C dX1_forgetThings_3 (by decide) ?_
    refine q_icmp_ge (pc := 5) (tgt := 21) C dX1_forgetThings_5 (by decide) (fun c1 => ?_) (fun c1 => ?_)
    · replace hm := hm_t c1 hm
      cases hm
      refine q_lv (lv' := []) [] rfl ?_
      exact kk
    · replace hm := hm_f c1 hm
      refine q_aload_n (pc := 8) C dX1_forgetThings_8 rfl 0 rfl ?_
      refine q_get (pc := 9) (T := TX1) (v := .ref (gad G 47)) C (by decide) (ce_42 _ _ _) (ci := 1) rfl inlX1 (j := 12) (by decide) rfl tw_86 (Or.inl rfl) dX1_forgetThings_9 ?_
      refine q_iload_n (pc := 12) C dX1_forgetThings_12 rfl 1 rfl ?_
      refine q_iconst (pc := 13) (v := (0 : Int32)) C dX1_forgetThings_13 (by decide) ?_
      obtain ⟨b1, hm⟩ := oi_some hm
      refine q_zast0 (pc := 14) C (by decide) (fun _ => ce_47 _ _ _) (ty_47 _) b1 dX1_forgetThings_14 ?_
      refine q_iinc (pc := 15) (k := 1) (v := (v1 + (1 : Int32))) (lv' := [(1, .int (v1 + (1 : Int32))), (0, .ref (gad G 42))]) C dX1_forgetThings_15 rfl rfl (by decide) rfl ?_
      refine q_goto (pc := 18) (tgt := 2) C dX1_forgetThings_18 (by decide) ?_
      refine q_lv (lv' := [(0, .ref (gad G 42)), (1, .int (v1 + (1 : Int32)))]) [1, 0] rfl ?_
      exact ih _ _ _ hm kk
set_option maxRecDepth 100000 in
theorem c_Cou_forgetThings {G : Gx} (hi : qinj (gad G)) {S : St}  {zS : St} (hm : m_Cou_forgetThings S  = some zS) : QMet G yX1_forgetThings cX1_forgetThings 2 none 0 0 [.ref (gad G 42)] S none zS := by
  refine q_entry (by decide +kernel) rfl hi (Nat.le_of_ble_eq_true rfl) ?_
  intro X C
  refine q_lv (lv' := [(0, .ref (gad G 42))]) [0] rfl ?_
  unfold m_Cou_forgetThings at hm
  refine q_iconst (pc := 0) (v := (0 : Int32)) C dX1_forgetThings_0 (by decide) ?_
  refine q_istore_n (pc := 1) (lv' := [(1, .int (0 : Int32)), (0, .ref (gad G 42))]) C dX1_forgetThings_1 rfl (by decide) rfl ?_
  refine q_lv (lv' := [(0, .ref (gad G 42)), (1, .int (0 : Int32))]) [1, 0] rfl ?_
  obtain ⟨S1, h1, hm⟩ := o1_some hm
  refine w_Cou_forgetThings_L2 hi C 200 _ _ _ h1 ?_
  cases hm
  exact q_vret (pc := 21) C dX1_forgetThings_21
set_option maxRecDepth 100000 in
theorem c_Cou_resetCounters {G : Gx} (hi : qinj (gad G)) {S : St}  {zS : St} (hm : m_Cou_resetCounters S  = some zS) : QMet G yX1_resetCounters cX1_resetCounters 1 none 0 0 [.ref (gad G 42)] S none zS := by
  refine q_entry (by decide +kernel) rfl hi (Nat.le_of_ble_eq_true rfl) ?_
  intro X C
  refine q_lv (lv' := [(0, .ref (gad G 42))]) [0] rfl ?_
  unfold m_Cou_resetCounters at hm
  refine q_aload_n (pc := 0) C dX1_resetCounters_0 rfl 0 rfl ?_
  refine q_iconst (pc := 1) (v := (0 : Int32)) C dX1_resetCounters_1 (by decide) ?_
  refine q_put (pc := 2) (T := TX1) (ty := .int) C tyX1 tyX1_ok nmX1 (by decide) (ce_42 _ _ _) (pe_42_10 _ _ _ _) (ci := 1) rfl inlX1 (j := 10) (by decide) (Nat.le_of_ble_eq_true rfl) tw_178 (Or.inl rfl) rfl (by decide +kernel) rfl rfl dX1_resetCounters_2 ?_
  cases hm
  exact q_vret (pc := 5) C dX1_resetCounters_5
set_option maxRecDepth 100000 in
theorem c_St_startAnew_Cou_42 {G : Gx} (hi : qinj (gad G)) {S : St} {a1 : Int32} {zS : St} (hm : m_St_startAnew_Cou S a1 = some zS) : QMet G yX7_startAnew cX7_startAnew 2 none 1 21 [.ref (gad G 42), .int a1] S none zS := by
  refine q_entry (by decide +kernel) rfl hi (Nat.le_of_ble_eq_true rfl) ?_
  intro X C
  refine q_lv (lv' := [(0, .ref (gad G 42)), (1, .int a1)]) [0, 1] rfl ?_
  unfold m_St_startAnew_Cou at hm
  refine q_aload_n (pc := 0) C dX7_startAnew_0 rfl 0 rfl ?_
  refine q_iload_n (pc := 1) C dX7_startAnew_1 rfl 1 rfl ?_
  refine q_put (pc := 2) (T := TX1) (ty := .int) C tyX1 tyX1_ok nmX1 (by decide) (ce_42 _ _ _) (pe_42_2 _ _ _ _) (ci := 1) rfl inlX1 (j := 2) (by decide) (Nat.le_of_ble_eq_true rfl) tw_68 (Or.inl rfl) rfl (by decide +kernel) rfl rfl dX7_startAnew_2 ?_
  refine q_aload_n (pc := 5) C dX7_startAnew_5 rfl 0 rfl ?_
  refine q_iconst (pc := 6) (v := (0 : Int32)) C dX7_startAnew_6 (by decide) ?_
  refine q_put (pc := 7) (T := TX1) (ty := .int) C tyX1 tyX1_ok nmX1 (by decide) (ce_42 _ _ _) (pe_42_3 _ _ _ _) (ci := 1) rfl inlX1 (j := 3) (by decide) (Nat.le_of_ble_eq_true rfl) tw_133 (Or.inl rfl) rfl (by decide +kernel) rfl rfl dX7_startAnew_7 ?_
  refine q_aload_n (pc := 10) C dX7_startAnew_10 rfl 0 rfl ?_
  refine q_iconst (pc := 11) (v := (0 : Int32)) C dX7_startAnew_11 (by decide) ?_
  refine q_put (pc := 12) (T := TX1) (ty := .int) C tyX1 tyX1_ok nmX1 (by decide) (ce_42 _ _ _) (pe_42_4 _ _ _ _) (ci := 1) rfl inlX1 (j := 4) (by decide) (Nat.le_of_ble_eq_true rfl) tw_134 (Or.inl rfl) rfl (by decide +kernel) rfl rfl dX7_startAnew_12 ?_
  refine q_aload_n (pc := 15) C dX7_startAnew_15 rfl 0 rfl ?_
  refine q_iconst (pc := 16) (v := (0 : Int32)) C dX7_startAnew_16 (by decide) ?_
  refine q_put (pc := 17) (T := TX1) (ty := .int) C tyX1 tyX1_ok nmX1 (by decide) (ce_42 _ _ _) (pe_42_5 _ _ _ _) (ci := 1) rfl inlX1 (j := 5) (by decide) (Nat.le_of_ble_eq_true rfl) tw_135 (Or.inl rfl) rfl (by decide +kernel) rfl rfl dX7_startAnew_17 ?_
  refine q_aload_n (pc := 20) C dX7_startAnew_20 rfl 0 rfl ?_
  refine q_iconst (pc := 21) (v := (0 : Int32)) C dX7_startAnew_21 (by decide) ?_
  refine q_put (pc := 22) (T := TX1) (ty := .boolean) C tyX1 tyX1_ok nmX1 (by decide) (ce_42 _ _ _) (pe_42_6 _ _ _ _) (ci := 1) rfl inlX1 (j := 6) (by decide) (Nat.le_of_ble_eq_true rfl) tw_136 (Or.inl rfl) rfl (by decide +kernel) (by decide) (by decide) dX7_startAnew_22 ?_
  refine q_aload_n (pc := 25) C dX7_startAnew_25 rfl 0 rfl ?_
  refine q_iconst (pc := 26) (v := (0 : Int32)) C dX7_startAnew_26 (by decide) ?_
  refine q_put (pc := 27) (T := TX1) (ty := .int) C tyX1 tyX1_ok nmX1 (by decide) (ce_42 _ _ _) (pe_42_7 _ _ _ _) (ci := 1) rfl inlX1 (j := 7) (by decide) (Nat.le_of_ble_eq_true rfl) tw_137 (Or.inl rfl) rfl (by decide +kernel) rfl rfl dX7_startAnew_27 ?_
  refine q_aload_n (pc := 30) C dX7_startAnew_30 rfl 0 rfl ?_
  obtain ⟨S1, h1, hm⟩ := o1_some hm
  refine q_callU (pc := 31) (k := 42) (As := []) (rest := []) (T := TX1) (owner := "Tessera$Store") (x := ⟨"Tessera$Store", "letAllGo", "()V"⟩) C (c_St_letAllGo_42 hi h1) (by decide) (ce_42 _ _ _) (ci := 1) rfl (Or.inl rfl) tw_138 tw_139 tw_141 tw_143 tw_62 tw_142 (nA := 0) (by decide +kernel) rfl (by decide) (Nat.le_of_ble_eq_true rfl) rfl dX7_startAnew_31 ?_
  refine q_aload_n (pc := 34) C dX7_startAnew_34 rfl 0 rfl ?_
  obtain ⟨S2, h2, hm⟩ := o1_some hm
  refine q_callU (pc := 35) (k := 42) (As := []) (rest := []) (T := TX1) (owner := "Tessera$Store") (x := ⟨"Tessera$Store", "forgetThings", "()V"⟩) C (c_Cou_forgetThings hi h2) (by decide) (ce_42 _ _ _) (ci := 1) rfl (Or.inr (Or.inl (by decide))) tw_146 tw_147 tw_154 tw_153 tw_22 tw_155 (nA := 0) (by decide +kernel) rfl (by decide) (Nat.le_of_ble_eq_true rfl) rfl dX7_startAnew_35 ?_
  refine q_aload_n (pc := 38) C dX7_startAnew_38 rfl 0 rfl ?_
  obtain ⟨S3, h3, hm⟩ := o1_some hm
  refine q_callU (pc := 39) (k := 42) (As := []) (rest := []) (T := TX1) (owner := "Tessera$Store") (x := ⟨"Tessera$Store", "resetCounters", "()V"⟩) C (c_Cou_resetCounters hi h3) (by decide) (ce_42 _ _ _) (ci := 1) rfl (Or.inr (Or.inr ⟨_, _, _, tw_174, tw_173⟩)) tw_169 tw_170 tw_176 tw_175 tw_22 tw_177 (nA := 0) (by decide +kernel) rfl (by decide) (Nat.le_of_ble_eq_true rfl) rfl dX7_startAnew_39 ?_
  cases hm
  exact q_vret (pc := 42) C dX7_startAnew_42
set_option maxRecDepth 100000 in
theorem c_Te_begin {G : Gx} (hi : qinj (gad G)) {S : St} {a1 : Int32} {zr : Int32} {zS : St} (hm : m_Te_begin S a1 = some (zr, zS)) : QMet G yX8_begin cX8_begin 4 (some .int) 3 62 [.ref (gad G 0), .int a1] S (some (.int zr)) zS := by
  refine q_entry (by decide +kernel) rfl hi (Nat.le_of_ble_eq_true rfl) ?_
  intro X C
  refine q_lv (lv' := [(0, .ref (gad G 0)), (1, .int a1)]) [0, 1] rfl ?_
  unfold m_Te_begin at hm
  refine q_iload_n (pc := 0) C dX8_begin_0 rfl 1 rfl ?_
  refine q_bipush (pc := 1) (v := (40 : Int32)) C dX8_begin_1 (by decide) ?_
  refine q_icmp_lt (pc := 3) (tgt := 13) C dX8_begin_3 (by decide) (fun c1 => ?_) (fun c1 => ?_)
  · replace hm := hm_t c1 hm
    cases hm
  · replace hm := hm_f c1 hm
    refine q_iload_n (pc := 6) C dX8_begin_6 rfl 1 rfl ?_
    refine q_sipush (pc := 7) (v := (160 : Int32)) C dX8_begin_7 (by decide) ?_
    refine q_icmp_le (pc := 10) (tgt := 23) C dX8_begin_10 (by decide) (fun c2 => ?_) (fun c2 => ?_)
    · replace hm := hm_t c2 hm
      refine q_aload_n (pc := 23) C dX8_begin_23 rfl 0 rfl ?_
      refine q_get (pc := 24) (T := TX8) (v := .int (S 0 5)) C (by decide) (ce_0 _ _ _) (ci := 6) rfl inlX8 (j := 5) (by decide) rfl tw_32 (Or.inl rfl) dX8_begin_24 ?_
      refine q_istore_n (pc := 27) (lv' := [(2, .int (S 0 5)), (0, .ref (gad G 0)), (1, .int a1)]) C dX8_begin_27 rfl (by decide) rfl ?_
      refine q_aload_n (pc := 28) C dX8_begin_28 rfl 1 rfl ?_
      refine q_iload_n (pc := 29) C dX8_begin_29 rfl 2 rfl ?_
      refine q_put (pc := 30) (T := TX8) (ty := .int) C tyX8 tyX8_ok nmX8 (by decide) (ce_0 _ _ _) (pe_0_5 _ _ _ _) (ci := 6) rfl inlX8 (j := 5) (by decide) (Nat.le_of_ble_eq_true rfl) tw_32 (Or.inl rfl) rfl (by decide +kernel) rfl rfl dX8_begin_30 ?_
      refine q_aload_n (pc := 33) C dX8_begin_33 rfl 1 rfl ?_
      refine q_get (pc := 34) (T := TX8) (v := .ref (gad G 1)) C (by decide) (ce_0 _ _ _) (ci := 6) rfl inlX8 (j := 0) (by decide) rfl tw_27 (Or.inl rfl) dX8_begin_34 ?_
      obtain ⟨S1, h1, hm⟩ := o1_some hm
      refine q_callV (pc := 37) (k := 1) (As := []) (rest := []) (T := TX2) C (c_Gr_startAnew hi h1) (by decide) (ce_1 _ _ _) (ci := 2) rfl tw_114 tw_115 tw_116 tw_13 tw_117 (nA := 0) (by decide +kernel) rfl (by decide) (Nat.le_of_ble_eq_true rfl) rfl dX8_begin_37 ?_
      refine q_iconst (pc := 40) (v := (0 : Int32)) C dX8_begin_40 (by decide) ?_
      refine q_istore_n (pc := 41) (lv' := [(3, .int (0 : Int32)), (2, .int (S 0 5)), (0, .ref (gad G 0)), (1, .int a1)]) C dX8_begin_41 rfl (by decide) rfl ?_
      refine q_iload_n (pc := 42) C dX8_begin_42 rfl 0 rfl ?_
      refine q_iconst (pc := 43) (v := (4 : Int32)) C dX8_begin_43 (by decide) ?_
      refine q_icmp_ge (pc := 44) (tgt := 63) C dX8_begin_44 (by decide) (fun c => absurd c (by decide)) (fun _ => ?_)
      refine q_aload_n (pc := 47) C dX8_begin_47 rfl 2 rfl ?_
      refine q_get (pc := 48) (T := TX8) (v := .ref (gad G 58)) C (by decide) (ce_0 _ _ _) (ci := 6) rfl inlX8 (j := 4) (by decide) rfl tw_31 (Or.inl rfl) dX8_begin_48 ?_
      refine q_iload_n (pc := 51) C dX8_begin_51 rfl 0 rfl ?_
      refine q_aald (pc := 52) (k := 12) (n := 0) C (by decide) (by decide) rfl dX8_begin_52 ?_
      refine q_iload_n (pc := 53) C dX8_begin_53 rfl 3 rfl ?_
      obtain ⟨S2, h2, hm⟩ := o1_some hm
      refine q_callU (pc := 54) (k := 12) (As := [.int a1]) (rest := []) (T := TX0) (owner := "Tessera$Store") (x := ⟨"Tessera$Store", "startAnew", "(I)V"⟩) C (c_St_startAnew_Cop_12 hi h2) (by decide) (ce_12 _ _ _) (ci := 0) rfl (Or.inl rfl) tw_128 tw_129 tw_131 tw_130 tw_62 tw_132 (nA := 1) (by decide +kernel) rfl (by decide) (Nat.le_of_ble_eq_true rfl) rfl dX8_begin_54 ?_
      refine q_iinc (pc := 57) (k := 0) (v := (1 : Int32)) (lv' := [(3, .int (1 : Int32)), (2, .int (S 0 5)), (0, .ref (gad G 0)), (1, .int a1)]) C dX8_begin_57 rfl (by decide) (by decide) rfl ?_
      refine q_goto (pc := 60) (tgt := 42) C dX8_begin_60 (by decide) ?_
      refine q_iload_n (pc := 42) C dX8_begin_42 rfl 0 rfl ?_
      refine q_iconst (pc := 43) (v := (4 : Int32)) C dX8_begin_43 (by decide) ?_
      refine q_icmp_ge (pc := 44) (tgt := 63) C dX8_begin_44 (by decide) (fun c => absurd c (by decide)) (fun _ => ?_)
      refine q_aload_n (pc := 47) C dX8_begin_47 rfl 2 rfl ?_
      refine q_get (pc := 48) (T := TX8) (v := .ref (gad G 58)) C (by decide) (ce_0 _ _ _) (ci := 6) rfl inlX8 (j := 4) (by decide) rfl tw_31 (Or.inl rfl) dX8_begin_48 ?_
      refine q_iload_n (pc := 51) C dX8_begin_51 rfl 0 rfl ?_
      refine q_aald (pc := 52) (k := 18) (n := 1) C (by decide) (by decide) rfl dX8_begin_52 ?_
      refine q_iload_n (pc := 53) C dX8_begin_53 rfl 3 rfl ?_
      obtain ⟨S3, h3, hm⟩ := o1_some hm
      refine q_callU (pc := 54) (k := 18) (As := [.int a1]) (rest := []) (T := TX4) (owner := "Tessera$Store") (x := ⟨"Tessera$Store", "startAnew", "(I)V"⟩) C (c_St_startAnew_Nur_18 hi h3) (by decide) (ce_18 _ _ _) (ci := 4) rfl (Or.inl rfl) tw_128 tw_129 tw_131 tw_187 tw_62 tw_132 (nA := 1) (by decide +kernel) rfl (by decide) (Nat.le_of_ble_eq_true rfl) rfl dX8_begin_54 ?_
      refine q_iinc (pc := 57) (k := 0) (v := (2 : Int32)) (lv' := [(3, .int (2 : Int32)), (2, .int (S 0 5)), (0, .ref (gad G 0)), (1, .int a1)]) C dX8_begin_57 rfl (by decide) (by decide) rfl ?_
      refine q_goto (pc := 60) (tgt := 42) C dX8_begin_60 (by decide) ?_
      refine q_iload_n (pc := 42) C dX8_begin_42 rfl 0 rfl ?_
      refine q_iconst (pc := 43) (v := (4 : Int32)) C dX8_begin_43 (by decide) ?_
      refine q_icmp_ge (pc := 44) (tgt := 63) C dX8_begin_44 (by decide) (fun c => absurd c (by decide)) (fun _ => ?_)
      refine q_aload_n (pc := 47) C dX8_begin_47 rfl 2 rfl ?_
      refine q_get (pc := 48) (T := TX8) (v := .ref (gad G 58)) C (by decide) (ce_0 _ _ _) (ci := 6) rfl inlX8 (j := 4) (by decide) rfl tw_31 (Or.inl rfl) dX8_begin_48 ?_
      refine q_iload_n (pc := 51) C dX8_begin_51 rfl 0 rfl ?_
      refine q_aald (pc := 52) (k := 31) (n := 2) C (by decide) (by decide) rfl dX8_begin_52 ?_
      refine q_iload_n (pc := 53) C dX8_begin_53 rfl 3 rfl ?_
      obtain ⟨S4, h4, hm⟩ := o1_some hm
      refine q_callU (pc := 54) (k := 31) (As := [.int a1]) (rest := []) (T := TX3) (owner := "Tessera$Store") (x := ⟨"Tessera$Store", "startAnew", "(I)V"⟩) C (c_St_startAnew_Mar_31 hi h4) (by decide) (ce_31 _ _ _) (ci := 3) rfl (Or.inl rfl) tw_128 tw_129 tw_131 tw_186 tw_62 tw_132 (nA := 1) (by decide +kernel) rfl (by decide) (Nat.le_of_ble_eq_true rfl) rfl dX8_begin_54 ?_
      refine q_iinc (pc := 57) (k := 0) (v := (3 : Int32)) (lv' := [(3, .int (3 : Int32)), (2, .int (S 0 5)), (0, .ref (gad G 0)), (1, .int a1)]) C dX8_begin_57 rfl (by decide) (by decide) rfl ?_
      refine q_goto (pc := 60) (tgt := 42) C dX8_begin_60 (by decide) ?_
      refine q_iload_n (pc := 42) C dX8_begin_42 rfl 0 rfl ?_
      refine q_iconst (pc := 43) (v := (4 : Int32)) C dX8_begin_43 (by decide) ?_
      refine q_icmp_ge (pc := 44) (tgt := 63) C dX8_begin_44 (by decide) (fun c => absurd c (by decide)) (fun _ => ?_)
      refine q_aload_n (pc := 47) C dX8_begin_47 rfl 2 rfl ?_
      refine q_get (pc := 48) (T := TX8) (v := .ref (gad G 58)) C (by decide) (ce_0 _ _ _) (ci := 6) rfl inlX8 (j := 4) (by decide) rfl tw_31 (Or.inl rfl) dX8_begin_48 ?_
      refine q_iload_n (pc := 51) C dX8_begin_51 rfl 0 rfl ?_
      refine q_aald (pc := 52) (k := 42) (n := 3) C (by decide) (by decide) rfl dX8_begin_52 ?_
      refine q_iload_n (pc := 53) C dX8_begin_53 rfl 3 rfl ?_
      obtain ⟨S5, h5, hm⟩ := o1_some hm
      refine q_callU (pc := 54) (k := 42) (As := [.int a1]) (rest := []) (T := TX1) (owner := "Tessera$Store") (x := ⟨"Tessera$Store", "startAnew", "(I)V"⟩) C (c_St_startAnew_Cou_42 hi h5) (by decide) (ce_42 _ _ _) (ci := 1) rfl (Or.inl rfl) tw_128 tw_129 tw_131 tw_185 tw_62 tw_132 (nA := 1) (by decide +kernel) rfl (by decide) (Nat.le_of_ble_eq_true rfl) rfl dX8_begin_54 ?_
      refine q_iinc (pc := 57) (k := 0) (v := (4 : Int32)) (lv' := [(3, .int (4 : Int32)), (2, .int (S 0 5)), (0, .ref (gad G 0)), (1, .int a1)]) C dX8_begin_57 rfl (by decide) (by decide) rfl ?_
      refine q_goto (pc := 60) (tgt := 42) C dX8_begin_60 (by decide) ?_
      refine q_iload_n (pc := 42) C dX8_begin_42 rfl 0 rfl ?_
      refine q_iconst (pc := 43) (v := (4 : Int32)) C dX8_begin_43 (by decide) ?_
      refine q_icmp_ge (pc := 44) (tgt := 63) C dX8_begin_44 (by decide) (fun _ => ?_) (fun c => absurd c (by decide))
      refine q_iload_n (pc := 63) C dX8_begin_63 rfl 1 rfl ?_
      cases hm
      exact q_iret (pc := 64) C dX8_begin_64
    · replace hm := hm_f c2 hm
      cases hm
set_option maxRecDepth 100000 in
theorem c_Te_things {G : Gx} (hi : qinj (gad G)) {S : St}  {zr : Int32} (hm : m_Te_things S  = some zr) : QMet G yX8_things cX8_things 1 (some .int) 0 0 [.ref (gad G 0)] S (some (.int zr)) S := by
  refine q_entry (by decide +kernel) rfl hi (Nat.le_of_ble_eq_true rfl) ?_
  intro X C
  refine q_lv (lv' := [(0, .ref (gad G 0))]) [0] rfl ?_
  unfold m_Te_things at hm
  refine q_aload_n (pc := 0) C dX8_things_0 rfl 0 rfl ?_
  refine q_get (pc := 1) (T := TX8) (v := .ref (gad G 1)) C (by decide) (ce_0 _ _ _) (ci := 6) rfl inlX8 (j := 0) (by decide) rfl tw_27 (Or.inl rfl) dX8_things_1 ?_
  refine q_get (pc := 4) (T := TX2) (v := .int (S 1 6)) C (by decide) (ce_1 _ _ _) (ci := 2) rfl inlX2 (j := 6) (by decide) rfl tw_192 (Or.inl rfl) dX8_things_4 ?_
  cases hm
  exact q_iret (pc := 7) C dX8_things_7
set_option maxRecDepth 100000 in
theorem c_Te_checkRoot {G : Gx} (hi : qinj (gad G)) {S : St} {a0 : Int32} {zu : Unit} (hm : m_Te_checkRoot S a0 = some zu) : QMet G yX8_checkRoot cX8_checkRoot 1 none 0 0 [.int a0] S none S := by
  refine q_entry (by decide +kernel) rfl hi (Nat.le_of_ble_eq_true rfl) ?_
  intro X C
  refine q_lv (lv' := [(0, .int a0)]) [0] rfl ?_
  unfold m_Te_checkRoot at hm
  refine q_iload_n (pc := 0) C dX8_checkRoot_0 rfl 0 rfl ?_
  refine q_if_lt (pc := 1) (tgt := 10) C dX8_checkRoot_1 (by decide) (fun c1 => ?_) (fun c1 => ?_)
  · replace hm := hm_t c1 hm
    cases hm
  · replace hm := hm_f c1 hm
    refine q_iload_n (pc := 4) C dX8_checkRoot_4 rfl 0 rfl ?_
    refine q_bipush (pc := 5) (v := (6 : Int32)) C dX8_checkRoot_5 (by decide) ?_
    refine q_icmp_lt (pc := 7) (tgt := 21) C dX8_checkRoot_7 (by decide) (fun c2 => ?_) (fun c2 => ?_)
    · replace hm := hm_t c2 hm
      cases hm
      exact q_vret (pc := 21) C dX8_checkRoot_21
    · replace hm := hm_f c2 hm
      cases hm
set_option maxRecDepth 100000 in
theorem c_St_openPause_12 {G : Gx} (hi : qinj (gad G)) {S : St}  {zS : St} (hm : m_St_openPause 12 0 S  = some zS) : QMet G yX7_openPause cX7_openPause 1 none 0 0 [.ref (gad G 12)] S none zS := by
  refine q_entry (by decide +kernel) rfl hi (Nat.le_of_ble_eq_true rfl) ?_
  intro X C
  refine q_lv (lv' := [(0, .ref (gad G 12))]) [0] rfl ?_
  unfold m_St_openPause at hm
  refine q_aload_n (pc := 0) C dX7_openPause_0 rfl 0 rfl ?_
  refine q_aload_n (pc := 1) C dX7_openPause_1 rfl 0 rfl ?_
  refine q_get (pc := 2) (T := TX0) (v := .int (S 12 2)) C (by decide) (ce_12 _ _ _) (ci := 0) rfl inlX0 (j := 2) (by decide) rfl tw_133 (Or.inl rfl) dX7_openPause_2 ?_
  refine q_put (pc := 5) (T := TX0) (ty := .int) C tyX0 tyX0_ok nmX0 (by decide) (ce_12 _ _ _) (pe_12_6 _ _ _ _) (ci := 0) rfl inlX0 (j := 6) (by decide) (Nat.le_of_ble_eq_true rfl) tw_137 (Or.inl rfl) rfl (by decide +kernel) rfl rfl dX7_openPause_5 ?_
  cases hm
  exact q_vret (pc := 8) C dX7_openPause_8
set_option maxRecDepth 100000 in
theorem c_St_openPause_18 {G : Gx} (hi : qinj (gad G)) {S : St}  {zS : St} (hm : m_St_openPause 18 0 S  = some zS) : QMet G yX7_openPause cX7_openPause 1 none 0 0 [.ref (gad G 18)] S none zS := by
  refine q_entry (by decide +kernel) rfl hi (Nat.le_of_ble_eq_true rfl) ?_
  intro X C
  refine q_lv (lv' := [(0, .ref (gad G 18))]) [0] rfl ?_
  unfold m_St_openPause at hm
  refine q_aload_n (pc := 0) C dX7_openPause_0 rfl 0 rfl ?_
  refine q_aload_n (pc := 1) C dX7_openPause_1 rfl 0 rfl ?_
  refine q_get (pc := 2) (T := TX4) (v := .int (S 18 2)) C (by decide) (ce_18 _ _ _) (ci := 4) rfl inlX4 (j := 2) (by decide) rfl tw_133 (Or.inl rfl) dX7_openPause_2 ?_
  refine q_put (pc := 5) (T := TX4) (ty := .int) C tyX4 tyX4_ok nmX4 (by decide) (ce_18 _ _ _) (pe_18_6 _ _ _ _) (ci := 4) rfl inlX4 (j := 6) (by decide) (Nat.le_of_ble_eq_true rfl) tw_137 (Or.inl rfl) rfl (by decide +kernel) rfl rfl dX7_openPause_5 ?_
  cases hm
  exact q_vret (pc := 8) C dX7_openPause_8
set_option maxRecDepth 100000 in
theorem c_St_openPause_31 {G : Gx} (hi : qinj (gad G)) {S : St}  {zS : St} (hm : m_St_openPause 31 1 S  = some zS) : QMet G yX7_openPause cX7_openPause 1 none 0 0 [.ref (gad G 31)] S none zS := by
  refine q_entry (by decide +kernel) rfl hi (Nat.le_of_ble_eq_true rfl) ?_
  intro X C
  refine q_lv (lv' := [(0, .ref (gad G 31))]) [0] rfl ?_
  unfold m_St_openPause at hm
  refine q_aload_n (pc := 0) C dX7_openPause_0 rfl 0 rfl ?_
  refine q_aload_n (pc := 1) C dX7_openPause_1 rfl 0 rfl ?_
  refine q_get (pc := 2) (T := TX3) (v := .int (S 31 3)) C (by decide) (ce_31 _ _ _) (ci := 3) rfl inlX3 (j := 3) (by decide) rfl tw_133 (Or.inl rfl) dX7_openPause_2 ?_
  refine q_put (pc := 5) (T := TX3) (ty := .int) C tyX3 tyX3_ok nmX3 (by decide) (ce_31 _ _ _) (pe_31_7 _ _ _ _) (ci := 3) rfl inlX3 (j := 7) (by decide) (Nat.le_of_ble_eq_true rfl) tw_137 (Or.inl rfl) rfl (by decide +kernel) rfl rfl dX7_openPause_5 ?_
  cases hm
  exact q_vret (pc := 8) C dX7_openPause_8
set_option maxRecDepth 100000 in
theorem c_St_openPause_42 {G : Gx} (hi : qinj (gad G)) {S : St}  {zS : St} (hm : m_St_openPause 42 1 S  = some zS) : QMet G yX7_openPause cX7_openPause 1 none 0 0 [.ref (gad G 42)] S none zS := by
  refine q_entry (by decide +kernel) rfl hi (Nat.le_of_ble_eq_true rfl) ?_
  intro X C
  refine q_lv (lv' := [(0, .ref (gad G 42))]) [0] rfl ?_
  unfold m_St_openPause at hm
  refine q_aload_n (pc := 0) C dX7_openPause_0 rfl 0 rfl ?_
  refine q_aload_n (pc := 1) C dX7_openPause_1 rfl 0 rfl ?_
  refine q_get (pc := 2) (T := TX1) (v := .int (S 42 3)) C (by decide) (ce_42 _ _ _) (ci := 1) rfl inlX1 (j := 3) (by decide) rfl tw_133 (Or.inl rfl) dX7_openPause_2 ?_
  refine q_put (pc := 5) (T := TX1) (ty := .int) C tyX1 tyX1_ok nmX1 (by decide) (ce_42 _ _ _) (pe_42_7 _ _ _ _) (ci := 1) rfl inlX1 (j := 7) (by decide) (Nat.le_of_ble_eq_true rfl) tw_137 (Or.inl rfl) rfl (by decide +kernel) rfl rfl dX7_openPause_5 ?_
  cases hm
  exact q_vret (pc := 8) C dX7_openPause_8
set_option maxRecDepth 100000 in
theorem c_Te_openPauses {G : Gx} (hi : qinj (gad G)) {S : St}  {zS : St} (hm : m_Te_openPauses S  = some zS) : QMet G yX8_openPauses cX8_openPauses 2 none 1 20 [.ref (gad G 0)] S none zS := by
  refine q_entry (by decide +kernel) rfl hi (Nat.le_of_ble_eq_true rfl) ?_
  intro X C
  refine q_lv (lv' := [(0, .ref (gad G 0))]) [0] rfl ?_
  unfold m_Te_openPauses at hm
  refine q_iconst (pc := 0) (v := (0 : Int32)) C dX8_openPauses_0 (by decide) ?_
  refine q_istore_n (pc := 1) (lv' := [(1, .int (0 : Int32)), (0, .ref (gad G 0))]) C dX8_openPauses_1 rfl (by decide) rfl ?_
  refine q_iload_n (pc := 2) C dX8_openPauses_2 rfl 0 rfl ?_
  refine q_iconst (pc := 3) (v := (4 : Int32)) C dX8_openPauses_3 (by decide) ?_
  refine q_icmp_ge (pc := 4) (tgt := 22) C dX8_openPauses_4 (by decide) (fun c => absurd c (by decide)) (fun _ => ?_)
  refine q_aload_n (pc := 7) C dX8_openPauses_7 rfl 1 rfl ?_
  refine q_get (pc := 8) (T := TX8) (v := .ref (gad G 58)) C (by decide) (ce_0 _ _ _) (ci := 6) rfl inlX8 (j := 4) (by decide) rfl tw_31 (Or.inl rfl) dX8_openPauses_8 ?_
  refine q_iload_n (pc := 11) C dX8_openPauses_11 rfl 0 rfl ?_
  refine q_aald (pc := 12) (k := 12) (n := 0) C (by decide) (by decide) rfl dX8_openPauses_12 ?_
  obtain ⟨S1, h1, hm⟩ := o1_some hm
  refine q_callU (pc := 13) (k := 12) (As := []) (rest := []) (T := TX0) (owner := "Tessera$Store") (x := ⟨"Tessera$Store", "openPause", "()V"⟩) C (c_St_openPause_12 hi h1) (by decide) (ce_12 _ _ _) (ci := 0) rfl (Or.inl rfl) tw_209 tw_210 tw_212 tw_211 tw_62 tw_213 (nA := 0) (by decide +kernel) rfl (by decide) (Nat.le_of_ble_eq_true rfl) rfl dX8_openPauses_13 ?_
  refine q_iinc (pc := 16) (k := 0) (v := (1 : Int32)) (lv' := [(1, .int (1 : Int32)), (0, .ref (gad G 0))]) C dX8_openPauses_16 rfl (by decide) (by decide) rfl ?_
  refine q_goto (pc := 19) (tgt := 2) C dX8_openPauses_19 (by decide) ?_
  refine q_iload_n (pc := 2) C dX8_openPauses_2 rfl 0 rfl ?_
  refine q_iconst (pc := 3) (v := (4 : Int32)) C dX8_openPauses_3 (by decide) ?_
  refine q_icmp_ge (pc := 4) (tgt := 22) C dX8_openPauses_4 (by decide) (fun c => absurd c (by decide)) (fun _ => ?_)
  refine q_aload_n (pc := 7) C dX8_openPauses_7 rfl 1 rfl ?_
  refine q_get (pc := 8) (T := TX8) (v := .ref (gad G 58)) C (by decide) (ce_0 _ _ _) (ci := 6) rfl inlX8 (j := 4) (by decide) rfl tw_31 (Or.inl rfl) dX8_openPauses_8 ?_
  refine q_iload_n (pc := 11) C dX8_openPauses_11 rfl 0 rfl ?_
  refine q_aald (pc := 12) (k := 18) (n := 1) C (by decide) (by decide) rfl dX8_openPauses_12 ?_
  obtain ⟨S2, h2, hm⟩ := o1_some hm
  refine q_callU (pc := 13) (k := 18) (As := []) (rest := []) (T := TX4) (owner := "Tessera$Store") (x := ⟨"Tessera$Store", "openPause", "()V"⟩) C (c_St_openPause_18 hi h2) (by decide) (ce_18 _ _ _) (ci := 4) rfl (Or.inl rfl) tw_209 tw_210 tw_212 tw_216 tw_62 tw_213 (nA := 0) (by decide +kernel) rfl (by decide) (Nat.le_of_ble_eq_true rfl) rfl dX8_openPauses_13 ?_
  refine q_iinc (pc := 16) (k := 0) (v := (2 : Int32)) (lv' := [(1, .int (2 : Int32)), (0, .ref (gad G 0))]) C dX8_openPauses_16 rfl (by decide) (by decide) rfl ?_
  refine q_goto (pc := 19) (tgt := 2) C dX8_openPauses_19 (by decide) ?_
  refine q_iload_n (pc := 2) C dX8_openPauses_2 rfl 0 rfl ?_
  refine q_iconst (pc := 3) (v := (4 : Int32)) C dX8_openPauses_3 (by decide) ?_
  refine q_icmp_ge (pc := 4) (tgt := 22) C dX8_openPauses_4 (by decide) (fun c => absurd c (by decide)) (fun _ => ?_)
  refine q_aload_n (pc := 7) C dX8_openPauses_7 rfl 1 rfl ?_
  refine q_get (pc := 8) (T := TX8) (v := .ref (gad G 58)) C (by decide) (ce_0 _ _ _) (ci := 6) rfl inlX8 (j := 4) (by decide) rfl tw_31 (Or.inl rfl) dX8_openPauses_8 ?_
  refine q_iload_n (pc := 11) C dX8_openPauses_11 rfl 0 rfl ?_
  refine q_aald (pc := 12) (k := 31) (n := 2) C (by decide) (by decide) rfl dX8_openPauses_12 ?_
  obtain ⟨S3, h3, hm⟩ := o1_some hm
  refine q_callU (pc := 13) (k := 31) (As := []) (rest := []) (T := TX3) (owner := "Tessera$Store") (x := ⟨"Tessera$Store", "openPause", "()V"⟩) C (c_St_openPause_31 hi h3) (by decide) (ce_31 _ _ _) (ci := 3) rfl (Or.inl rfl) tw_209 tw_210 tw_212 tw_215 tw_62 tw_213 (nA := 0) (by decide +kernel) rfl (by decide) (Nat.le_of_ble_eq_true rfl) rfl dX8_openPauses_13 ?_
  refine q_iinc (pc := 16) (k := 0) (v := (3 : Int32)) (lv' := [(1, .int (3 : Int32)), (0, .ref (gad G 0))]) C dX8_openPauses_16 rfl (by decide) (by decide) rfl ?_
  refine q_goto (pc := 19) (tgt := 2) C dX8_openPauses_19 (by decide) ?_
  refine q_iload_n (pc := 2) C dX8_openPauses_2 rfl 0 rfl ?_
  refine q_iconst (pc := 3) (v := (4 : Int32)) C dX8_openPauses_3 (by decide) ?_
  refine q_icmp_ge (pc := 4) (tgt := 22) C dX8_openPauses_4 (by decide) (fun c => absurd c (by decide)) (fun _ => ?_)
  refine q_aload_n (pc := 7) C dX8_openPauses_7 rfl 1 rfl ?_
  refine q_get (pc := 8) (T := TX8) (v := .ref (gad G 58)) C (by decide) (ce_0 _ _ _) (ci := 6) rfl inlX8 (j := 4) (by decide) rfl tw_31 (Or.inl rfl) dX8_openPauses_8 ?_
  refine q_iload_n (pc := 11) C dX8_openPauses_11 rfl 0 rfl ?_
  refine q_aald (pc := 12) (k := 42) (n := 3) C (by decide) (by decide) rfl dX8_openPauses_12 ?_
  obtain ⟨S4, h4, hm⟩ := o1_some hm
  refine q_callU (pc := 13) (k := 42) (As := []) (rest := []) (T := TX1) (owner := "Tessera$Store") (x := ⟨"Tessera$Store", "openPause", "()V"⟩) C (c_St_openPause_42 hi h4) (by decide) (ce_42 _ _ _) (ci := 1) rfl (Or.inl rfl) tw_209 tw_210 tw_212 tw_214 tw_62 tw_213 (nA := 0) (by decide +kernel) rfl (by decide) (Nat.le_of_ble_eq_true rfl) rfl dX8_openPauses_13 ?_
  refine q_iinc (pc := 16) (k := 0) (v := (4 : Int32)) (lv' := [(1, .int (4 : Int32)), (0, .ref (gad G 0))]) C dX8_openPauses_16 rfl (by decide) (by decide) rfl ?_
  refine q_goto (pc := 19) (tgt := 2) C dX8_openPauses_19 (by decide) ?_
  refine q_iload_n (pc := 2) C dX8_openPauses_2 rfl 0 rfl ?_
  refine q_iconst (pc := 3) (v := (4 : Int32)) C dX8_openPauses_3 (by decide) ?_
  refine q_icmp_ge (pc := 4) (tgt := 22) C dX8_openPauses_4 (by decide) (fun _ => ?_) (fun c => absurd c (by decide))
  cases hm
  exact q_vret (pc := 22) C dX8_openPauses_22
set_option maxRecDepth 100000 in
theorem w_Gr_addThing_L42 {G : Gx} (hi : qinj (gad G)) {X : Cx} (C : QC G X cX2_addThing 4 RX2 0 0 (some .int)) {Q : State → Prop} : ∀ (n : Nat) (S : St) (v2 : Int32) (v3 : Int32) (zS : St), m_Gr_addThing_L42 n S v2 v3 = some zS → QW G X 4 Q 64 [(2, .int v2)] [] zS → QW G X 4 Q 42 [(0, .ref (gad G 1)), (2, .int v2), (3, .int v3)] [] S := by
  intro n
  induction n with
  | zero =>
    intro S v2 v3 zS hm kk
    rw [m_Gr_addThing_L42] at hm
    cases hm
  | succ n ih =>
    intro S v2 v3 zS hm kk
    rw [m_Gr_addThing_L42] at hm
    refine q_iload_n (pc := 42) C dX2_addThing_42 rfl 2 rfl ?_
    refine q_iconst (pc := 43) (v := (3 : Int32)) C dX2_addThing_43 (by decide) ?_
    refine q_icmp_ge (pc := 44) (tgt := 64) C dX2_addThing_44 (by decide) (fun c1 => ?_) (fun c1 => ?_)
    · replace hm := hm_t c1 hm
      cases hm
      refine q_lv (lv' := [(2, .int v2)]) [1] rfl ?_
      exact kk
    · replace hm := hm_f c1 hm
      refine q_aload_n (pc := 47) C dX2_addThing_47 rfl 0 rfl ?_
      refine q_get (pc := 48) (T := TX2) (v := .ref (gad G 3)) C (by decide) (ce_1 _ _ _) (ci := 2) rfl inlX2 (j := 1) (by decide) rfl tw_38 (Or.inl rfl) dX2_addThing_48 ?_
      refine q_iload_n (pc := 51) C dX2_addThing_51 rfl 1 rfl ?_
      refine q_iconst (pc := 52) (v := (3 : Int32)) C dX2_addThing_52 (by decide) ?_
      refine q_imul (pc := 53) C dX2_addThing_53 ?_
      refine q_iload_n (pc := 54) C dX2_addThing_54 rfl 2 rfl ?_
      refine q_iadd (pc := 55) C dX2_addThing_55 ?_
      refine q_iconst (pc := 56) (v := (-1 : Int32)) C dX2_addThing_56 (by decide) ?_
      obtain ⟨b1, hm⟩ := oi_some hm
      refine q_iast (pc := 57) C (by decide) (fun _ => ce_3 _ _ _) (ty_3 _) b1 dX2_addThing_57 ?_
      refine q_iinc (pc := 58) (k := 2) (v := (v3 + (1 : Int32))) (lv' := [(3, .int (v3 + (1 : Int32))), (0, .ref (gad G 1)), (2, .int v2)]) C dX2_addThing_58 rfl rfl (by decide) rfl ?_
      refine q_goto (pc := 61) (tgt := 42) C dX2_addThing_61 (by decide) ?_
      refine q_lv (lv' := [(0, .ref (gad G 1)), (2, .int v2), (3, .int (v3 + (1 : Int32)))]) [1, 2, 0] rfl ?_
      exact ih _ _ _ _ hm kk
set_option maxRecDepth 100000 in
theorem c_Gr_addThing {G : Gx} (hi : qinj (gad G)) {S : St} {a1 : Int32} {zr : Int32} {zS : St} (hm : m_Gr_addThing S a1 = some (zr, zS)) : QMet G yX2_addThing cX2_addThing 4 (some .int) 0 0 [.ref (gad G 1), .int a1] S (some (.int zr)) zS := by
  refine q_entry (by decide +kernel) rfl hi (Nat.le_of_ble_eq_true rfl) ?_
  intro X C
  refine q_lv (lv' := [(0, .ref (gad G 1)), (1, .int a1)]) [0, 1] rfl ?_
  unfold m_Gr_addThing at hm
  refine q_aload_n (pc := 0) C dX2_addThing_0 rfl 0 rfl ?_
  refine q_get (pc := 1) (T := TX2) (v := .int (S 1 6)) C (by decide) (ce_1 _ _ _) (ci := 2) rfl inlX2 (j := 6) (by decide) rfl tw_118 (Or.inl rfl) dX2_addThing_1 ?_
  refine q_bipush (pc := 4) (v := (80 : Int32)) C dX2_addThing_4 (by decide) ?_
  refine q_icmp_lt (pc := 6) (tgt := 11) C dX2_addThing_6 (by decide) (fun c1 => ?_) (fun c1 => ?_)
  · replace hm := hm_t c1 hm
    refine q_aload_n (pc := 11) C dX2_addThing_11 rfl 0 rfl ?_
    refine q_get (pc := 12) (T := TX2) (v := .int (S 1 6)) C (by decide) (ce_1 _ _ _) (ci := 2) rfl inlX2 (j := 6) (by decide) rfl tw_118 (Or.inl rfl) dX2_addThing_12 ?_
    refine q_istore_n (pc := 15) (lv' := [(2, .int (S 1 6)), (0, .ref (gad G 1)), (1, .int a1)]) C dX2_addThing_15 rfl (by decide) rfl ?_
    refine q_aload_n (pc := 16) C dX2_addThing_16 rfl 1 rfl ?_
    refine q_dup (pc := 17) C dX2_addThing_17 rfl ?_
    refine q_get (pc := 18) (T := TX2) (v := .int (S 1 6)) C (by decide) (ce_1 _ _ _) (ci := 2) rfl inlX2 (j := 6) (by decide) rfl tw_118 (Or.inl rfl) dX2_addThing_18 ?_
    refine q_iconst (pc := 21) (v := (1 : Int32)) C dX2_addThing_21 (by decide) ?_
    refine q_iadd (pc := 22) C dX2_addThing_22 ?_
    refine q_put (pc := 23) (T := TX2) (ty := .int) C tyX2 tyX2_ok nmX2 (by decide) (ce_1 _ _ _) (pe_1_6 _ _ _ _) (ci := 2) rfl inlX2 (j := 6) (by decide) (Nat.le_of_ble_eq_true rfl) tw_118 (Or.inl rfl) rfl (by decide +kernel) rfl rfl dX2_addThing_23 ?_
    refine q_aload_n (pc := 26) C dX2_addThing_26 rfl 1 rfl ?_
    refine q_get (pc := 27) (T := TX2) (v := .ref (gad G 2)) C (by decide) (ce_1 _ _ _) (ci := 2) rfl inlX2 (j := 0) (by decide) rfl tw_37 (Or.inl rfl) dX2_addThing_27 ?_
    refine q_iload_n (pc := 30) C dX2_addThing_30 rfl 0 rfl ?_
    refine q_iload_n (pc := 31) C dX2_addThing_31 rfl 2 rfl ?_
    obtain ⟨b1, hm⟩ := oi_some hm
    refine q_iast (pc := 32) C (by decide) (fun _ => ce_2 _ _ _) (ty_2 _) b1 dX2_addThing_32 ?_
    refine q_aload_n (pc := 33) C dX2_addThing_33 rfl 1 rfl ?_
    refine q_get (pc := 34) (T := TX2) (v := .ref (gad G 5)) C (by decide) (ce_1 _ _ _) (ci := 2) rfl inlX2 (j := 3) (by decide) rfl tw_40 (Or.inl rfl) dX2_addThing_34 ?_
    refine q_iload_n (pc := 37) C dX2_addThing_37 rfl 0 rfl ?_
    refine q_iconst (pc := 38) (v := (-1 : Int32)) C dX2_addThing_38 (by decide) ?_
    obtain ⟨b2, hm⟩ := oi_some hm
    refine q_iast (pc := 39) C (by decide) (fun _ => ce_5 _ _ _) (ty_5 _) b2 dX2_addThing_39 ?_
    refine q_iconst (pc := 40) (v := (0 : Int32)) C dX2_addThing_40 (by decide) ?_
    refine q_istore_n (pc := 41) (lv' := [(3, .int (0 : Int32)), (2, .int (S 1 6)), (0, .ref (gad G 1)), (1, .int a1)]) C dX2_addThing_41 rfl (by decide) rfl ?_
    refine q_lv (lv' := [(0, .ref (gad G 1)), (2, .int (S 1 6)), (3, .int (0 : Int32))]) [2, 1, 0] rfl ?_
    obtain ⟨S1, h1, hm⟩ := o1_some hm
    refine w_Gr_addThing_L42 hi C 200 _ _ _ _ h1 ?_
    refine q_iload_n (pc := 64) C dX2_addThing_64 rfl 0 rfl ?_
    cases hm
    exact q_iret (pc := 65) C dX2_addThing_65
  · replace hm := hm_f c1 hm
    refine q_iconst (pc := 9) (v := (-1 : Int32)) C dX2_addThing_9 (by decide) ?_
    cases hm
    exact q_iret (pc := 10) C dX2_addThing_10
set_option maxRecDepth 100000 in
theorem c_Gr_rootAt {G : Gx} (hi : qinj (gad G)) {S : St} {a1 : Int32} {zr : Int32} (hm : m_Gr_rootAt S a1 = some zr) : QMet G yX2_rootAt cX2_rootAt 2 (some .int) 0 0 [.ref (gad G 1), .int a1] S (some (.int zr)) S := by
  refine q_entry (by decide +kernel) rfl hi (Nat.le_of_ble_eq_true rfl) ?_
  intro X C
  refine q_lv (lv' := [(0, .ref (gad G 1)), (1, .int a1)]) [0, 1] rfl ?_
  unfold m_Gr_rootAt at hm
  refine q_iload_n (pc := 0) C dX2_rootAt_0 rfl 1 rfl ?_
  refine q_if_lt (pc := 1) (tgt := 19) C dX2_rootAt_1 (by decide) (fun c1 => ?_) (fun c1 => ?_)
  · replace hm := hm_t c1 hm
    refine q_iconst (pc := 19) (v := (-1 : Int32)) C dX2_rootAt_19 (by decide) ?_
    cases hm
    exact q_iret (pc := 20) C dX2_rootAt_20
  · replace hm := hm_f c1 hm
    refine q_iload_n (pc := 4) C dX2_rootAt_4 rfl 1 rfl ?_
    refine q_bipush (pc := 5) (v := (6 : Int32)) C dX2_rootAt_5 (by decide) ?_
    refine q_icmp_ge (pc := 7) (tgt := 19) C dX2_rootAt_7 (by decide) (fun c2 => ?_) (fun c2 => ?_)
    · replace hm := hm_t c2 hm
      refine q_iconst (pc := 19) (v := (-1 : Int32)) C dX2_rootAt_19 (by decide) ?_
      cases hm
      exact q_iret (pc := 20) C dX2_rootAt_20
    · replace hm := hm_f c2 hm
      refine q_aload_n (pc := 10) C dX2_rootAt_10 rfl 0 rfl ?_
      refine q_get (pc := 11) (T := TX2) (v := .ref (gad G 4)) C (by decide) (ce_1 _ _ _) (ci := 2) rfl inlX2 (j := 2) (by decide) rfl tw_39 (Or.inl rfl) dX2_rootAt_11 ?_
      refine q_iload_n (pc := 14) C dX2_rootAt_14 rfl 1 rfl ?_
      obtain ⟨b1, hm⟩ := oi_some hm
      refine q_iald (pc := 15) C (by decide) (ce_4 _ _ _) (ty_4 _) b1 dX2_rootAt_15 ?_
      refine q_goto (pc := 16) (tgt := 20) C dX2_rootAt_16 (by decide) ?_
      cases hm
      exact q_iret (pc := 20) C dX2_rootAt_20
set_option maxRecDepth 100000 in
theorem c_Row_add_6 {G : Gx} (hi : qinj (gad G)) {S : St} {a1 : Int32} {zS : St} (hm : m_Row_add 6 S a1 = some zS) : QMet G yX5_add cX5_add 2 none 0 0 [.ref (gad G 6), .int a1] S none zS := by
  refine q_entry (by decide +kernel) rfl hi (Nat.le_of_ble_eq_true rfl) ?_
  intro X C
  refine q_lv (lv' := [(0, .ref (gad G 6)), (1, .int a1)]) [0, 1] rfl ?_
  unfold m_Row_add at hm
  refine q_iload_n (pc := 0) C dX5_add_0 rfl 1 rfl ?_
  refine q_if_lt (pc := 1) (tgt := 28) C dX5_add_1 (by decide) (fun c1 => ?_) (fun c1 => ?_)
  · replace hm := hm_t c1 hm
    cases hm
    exact q_vret (pc := 28) C dX5_add_28
  · replace hm := hm_f c1 hm
    refine q_iload_n (pc := 4) C dX5_add_4 rfl 1 rfl ?_
    refine q_bipush (pc := 5) (v := (80 : Int32)) C dX5_add_5 (by decide) ?_
    refine q_icmp_ge (pc := 7) (tgt := 28) C dX5_add_7 (by decide) (fun c2 => ?_) (fun c2 => ?_)
    · replace hm := hm_t c2 hm
      cases hm
      exact q_vret (pc := 28) C dX5_add_28
    · replace hm := hm_f c2 hm
      refine q_aload_n (pc := 10) C dX5_add_10 rfl 0 rfl ?_
      refine q_get (pc := 11) (T := TX5) (v := .ref (gad G 8)) C (by decide) (ce_6 _ _ _) (ci := 5) rfl inlX5 (j := 1) (by decide) rfl tw_50 (Or.inl rfl) dX5_add_11 ?_
      refine q_iload_n (pc := 14) C dX5_add_14 rfl 1 rfl ?_
      obtain ⟨b1, hm⟩ := oi_some hm
      refine q_zald (pc := 15) C (by decide) (ce_8 _ _ _) (ty_8 _) b1 dX5_add_15 ?_
      refine q_if_ne (pc := 16) (tgt := 28) C dX5_add_16 (by decide) (fun c3 => ?_) (fun c3 => ?_)
      · replace hm := hm_f c3 hm
        cases hm
        exact q_vret (pc := 28) C dX5_add_28
      · replace hm := hm_t c3 hm
        refine q_aload_n (pc := 19) C dX5_add_19 rfl 0 rfl ?_
        refine q_get (pc := 20) (T := TX5) (v := .int (S 6 2)) C (by decide) (ce_6 _ _ _) (ci := 5) rfl inlX5 (j := 2) (by decide) rfl tw_127 (Or.inl rfl) dX5_add_20 ?_
        refine q_bipush (pc := 23) (v := (80 : Int32)) C dX5_add_23 (by decide) ?_
        refine q_icmp_lt (pc := 25) (tgt := 29) C dX5_add_25 (by decide) (fun c4 => ?_) (fun c4 => ?_)
        · replace hm := hm_t c4 hm
          refine q_aload_n (pc := 29) C dX5_add_29 rfl 0 rfl ?_
          refine q_get (pc := 30) (T := TX5) (v := .ref (gad G 8)) C (by decide) (ce_6 _ _ _) (ci := 5) rfl inlX5 (j := 1) (by decide) rfl tw_50 (Or.inl rfl) dX5_add_30 ?_
          refine q_iload_n (pc := 33) C dX5_add_33 rfl 1 rfl ?_
          refine q_iconst (pc := 34) (v := (1 : Int32)) C dX5_add_34 (by decide) ?_
          obtain ⟨b2, hm⟩ := oi_some hm
          refine q_zast1 (pc := 35) C (by decide) (fun _ => ce_8 _ _ _) (ty_8 _) b2 dX5_add_35 ?_
          refine q_aload_n (pc := 36) C dX5_add_36 rfl 0 rfl ?_
          refine q_get (pc := 37) (T := TX5) (v := .ref (gad G 7)) C (by decide) (ce_6 _ _ _) (ci := 5) rfl inlX5 (j := 0) (by decide) rfl tw_49 (Or.inl rfl) dX5_add_37 ?_
          refine q_aload_n (pc := 40) C dX5_add_40 rfl 0 rfl ?_
          refine q_get (pc := 41) (T := TX5) (v := .int (S 6 2)) C (by decide) (ce_6 _ _ _) (ci := 5) rfl inlX5 (j := 2) (by decide) rfl tw_127 (Or.inl rfl) dX5_add_41 ?_
          refine q_iload_n (pc := 44) C dX5_add_44 rfl 1 rfl ?_
          obtain ⟨b3, hm⟩ := oi_some hm
          refine q_iast (pc := 45) C (by decide) (fun _ => ce_7 _ _ _) (ty_7 _) b3 dX5_add_45 ?_
          refine q_aload_n (pc := 46) C dX5_add_46 rfl 0 rfl ?_
          refine q_dup (pc := 47) C dX5_add_47 rfl ?_
          refine q_get (pc := 48) (T := TX5) (v := .int (S 6 2)) C (by decide) (ce_6 _ _ _) (ci := 5) rfl inlX5 (j := 2) (by decide) rfl tw_127 (Or.inl rfl) dX5_add_48 ?_
          refine q_iconst (pc := 51) (v := (1 : Int32)) C dX5_add_51 (by decide) ?_
          refine q_iadd (pc := 52) C dX5_add_52 ?_
          refine q_put (pc := 53) (T := TX5) (ty := .int) C tyX5 tyX5_ok nmX5 (by decide) (ce_6 _ _ _) (pe_6_2 _ _ _ _) (ci := 5) rfl inlX5 (j := 2) (by decide) (Nat.le_of_ble_eq_true rfl) tw_127 (Or.inl rfl) rfl (by decide +kernel) rfl rfl dX5_add_53 ?_
          cases hm
          exact q_vret (pc := 56) C dX5_add_56
        · replace hm := hm_f c4 hm
          cases hm
          exact q_vret (pc := 28) C dX5_add_28
set_option maxRecDepth 100000 in
theorem c_Row_get_6 {G : Gx} (hi : qinj (gad G)) {S : St} {a1 : Int32} {zr : Int32} (hm : m_Row_get 6 S a1 = some zr) : QMet G yX5_get cX5_get 2 (some .int) 0 0 [.ref (gad G 6), .int a1] S (some (.int zr)) S := by
  refine q_entry (by decide +kernel) rfl hi (Nat.le_of_ble_eq_true rfl) ?_
  intro X C
  refine q_lv (lv' := [(0, .ref (gad G 6)), (1, .int a1)]) [0, 1] rfl ?_
  unfold m_Row_get at hm
  refine q_iload_n (pc := 0) C dX5_get_0 rfl 1 rfl ?_
  refine q_if_lt (pc := 1) (tgt := 21) C dX5_get_1 (by decide) (fun c1 => ?_) (fun c1 => ?_)
  · replace hm := hm_t c1 hm
    refine q_iconst (pc := 21) (v := (-1 : Int32)) C dX5_get_21 (by decide) ?_
    cases hm
    exact q_iret (pc := 22) C dX5_get_22
  · replace hm := hm_f c1 hm
    refine q_iload_n (pc := 4) C dX5_get_4 rfl 1 rfl ?_
    refine q_aload_n (pc := 5) C dX5_get_5 rfl 0 rfl ?_
    refine q_get (pc := 6) (T := TX5) (v := .int (S 6 2)) C (by decide) (ce_6 _ _ _) (ci := 5) rfl inlX5 (j := 2) (by decide) rfl tw_127 (Or.inl rfl) dX5_get_6 ?_
    refine q_icmp_ge (pc := 9) (tgt := 21) C dX5_get_9 (by decide) (fun c2 => ?_) (fun c2 => ?_)
    · replace hm := hm_t c2 hm
      refine q_iconst (pc := 21) (v := (-1 : Int32)) C dX5_get_21 (by decide) ?_
      cases hm
      exact q_iret (pc := 22) C dX5_get_22
    · replace hm := hm_f c2 hm
      refine q_aload_n (pc := 12) C dX5_get_12 rfl 0 rfl ?_
      refine q_get (pc := 13) (T := TX5) (v := .ref (gad G 7)) C (by decide) (ce_6 _ _ _) (ci := 5) rfl inlX5 (j := 0) (by decide) rfl tw_49 (Or.inl rfl) dX5_get_13 ?_
      refine q_iload_n (pc := 16) C dX5_get_16 rfl 1 rfl ?_
      obtain ⟨b1, hm⟩ := oi_some hm
      refine q_iald (pc := 17) C (by decide) (ce_7 _ _ _) (ty_7 _) b1 dX5_get_17 ?_
      refine q_goto (pc := 18) (tgt := 22) C dX5_get_18 (by decide) ?_
      cases hm
      exact q_iret (pc := 22) C dX5_get_22
set_option maxRecDepth 100000 in
theorem c_Gr_fieldsOf {G : Gx} (hi : qinj (gad G)) {S : St} {a1 : Int32} {zr : Int32} (hm : m_Gr_fieldsOf S a1 = some zr) : QMet G yX2_fieldsOf cX2_fieldsOf 2 (some .int) 0 0 [.ref (gad G 1), .int a1] S (some (.int zr)) S := by
  refine q_entry (by decide +kernel) rfl hi (Nat.le_of_ble_eq_true rfl) ?_
  intro X C
  refine q_lv (lv' := [(0, .ref (gad G 1)), (1, .int a1)]) [0, 1] rfl ?_
  unfold m_Gr_fieldsOf at hm
  refine q_iload_n (pc := 0) C dX2_fieldsOf_0 rfl 1 rfl ?_
  refine q_if_lt (pc := 1) (tgt := 21) C dX2_fieldsOf_1 (by decide) (fun c1 => ?_) (fun c1 => ?_)
  · replace hm := hm_t c1 hm
    refine q_iconst (pc := 21) (v := (0 : Int32)) C dX2_fieldsOf_21 (by decide) ?_
    cases hm
    exact q_iret (pc := 22) C dX2_fieldsOf_22
  · replace hm := hm_f c1 hm
    refine q_iload_n (pc := 4) C dX2_fieldsOf_4 rfl 1 rfl ?_
    refine q_aload_n (pc := 5) C dX2_fieldsOf_5 rfl 0 rfl ?_
    refine q_get (pc := 6) (T := TX2) (v := .int (S 1 6)) C (by decide) (ce_1 _ _ _) (ci := 2) rfl inlX2 (j := 6) (by decide) rfl tw_118 (Or.inl rfl) dX2_fieldsOf_6 ?_
    refine q_icmp_ge (pc := 9) (tgt := 21) C dX2_fieldsOf_9 (by decide) (fun c2 => ?_) (fun c2 => ?_)
    · replace hm := hm_t c2 hm
      refine q_iconst (pc := 21) (v := (0 : Int32)) C dX2_fieldsOf_21 (by decide) ?_
      cases hm
      exact q_iret (pc := 22) C dX2_fieldsOf_22
    · replace hm := hm_f c2 hm
      refine q_aload_n (pc := 12) C dX2_fieldsOf_12 rfl 0 rfl ?_
      refine q_get (pc := 13) (T := TX2) (v := .ref (gad G 2)) C (by decide) (ce_1 _ _ _) (ci := 2) rfl inlX2 (j := 0) (by decide) rfl tw_37 (Or.inl rfl) dX2_fieldsOf_13 ?_
      refine q_iload_n (pc := 16) C dX2_fieldsOf_16 rfl 1 rfl ?_
      obtain ⟨b1, hm⟩ := oi_some hm
      refine q_iald (pc := 17) C (by decide) (ce_2 _ _ _) (ty_2 _) b1 dX2_fieldsOf_17 ?_
      refine q_goto (pc := 18) (tgt := 22) C dX2_fieldsOf_18 (by decide) ?_
      cases hm
      exact q_iret (pc := 22) C dX2_fieldsOf_22
set_option maxRecDepth 100000 in
theorem c_Gr_nameOf {G : Gx} (hi : qinj (gad G)) {S : St} {a1 : Int32} {a2 : Int32} {zr : Int32} (hm : m_Gr_nameOf S a1 a2 = some zr) : QMet G yX2_nameOf cX2_nameOf 3 (some .int) 0 0 [.ref (gad G 1), .int a1, .int a2] S (some (.int zr)) S := by
  refine q_entry (by decide +kernel) rfl hi (Nat.le_of_ble_eq_true rfl) ?_
  intro X C
  refine q_lv (lv' := [(0, .ref (gad G 1)), (1, .int a1), (2, .int a2)]) [0, 1, 2] rfl ?_
  unfold m_Gr_nameOf at hm
  refine q_iload_n (pc := 0) C dX2_nameOf_0 rfl 1 rfl ?_
  refine q_if_lt (pc := 1) (tgt := 26) C dX2_nameOf_1 (by decide) (fun c1 => ?_) (fun c1 => ?_)
  · replace hm := hm_t c1 hm
    refine q_iconst (pc := 26) (v := (-1 : Int32)) C dX2_nameOf_26 (by decide) ?_
    cases hm
    exact q_iret (pc := 27) C dX2_nameOf_27
  · replace hm := hm_f c1 hm
    refine q_iload_n (pc := 4) C dX2_nameOf_4 rfl 1 rfl ?_
    refine q_aload_n (pc := 5) C dX2_nameOf_5 rfl 0 rfl ?_
    refine q_get (pc := 6) (T := TX2) (v := .int (S 1 6)) C (by decide) (ce_1 _ _ _) (ci := 2) rfl inlX2 (j := 6) (by decide) rfl tw_118 (Or.inl rfl) dX2_nameOf_6 ?_
    refine q_icmp_ge (pc := 9) (tgt := 26) C dX2_nameOf_9 (by decide) (fun c2 => ?_) (fun c2 => ?_)
    · replace hm := hm_t c2 hm
      refine q_iconst (pc := 26) (v := (-1 : Int32)) C dX2_nameOf_26 (by decide) ?_
      cases hm
      exact q_iret (pc := 27) C dX2_nameOf_27
    · replace hm := hm_f c2 hm
      refine q_iload_n (pc := 12) C dX2_nameOf_12 rfl 2 rfl ?_
      refine q_if_lt (pc := 13) (tgt := 26) C dX2_nameOf_13 (by decide) (fun c3 => ?_) (fun c3 => ?_)
      · replace hm := hm_t c3 hm
        refine q_iconst (pc := 26) (v := (-1 : Int32)) C dX2_nameOf_26 (by decide) ?_
        cases hm
        exact q_iret (pc := 27) C dX2_nameOf_27
      · replace hm := hm_f c3 hm
        refine q_iload_n (pc := 16) C dX2_nameOf_16 rfl 2 rfl ?_
        refine q_aload_n (pc := 17) C dX2_nameOf_17 rfl 0 rfl ?_
        refine q_get (pc := 18) (T := TX2) (v := .ref (gad G 2)) C (by decide) (ce_1 _ _ _) (ci := 2) rfl inlX2 (j := 0) (by decide) rfl tw_37 (Or.inl rfl) dX2_nameOf_18 ?_
        refine q_iload_n (pc := 21) C dX2_nameOf_21 rfl 1 rfl ?_
        obtain ⟨b1, hm⟩ := oi_some hm
        refine q_iald (pc := 22) C (by decide) (ce_2 _ _ _) (ty_2 _) b1 dX2_nameOf_22 ?_
        refine q_icmp_lt (pc := 23) (tgt := 28) C dX2_nameOf_23 (by decide) (fun c4 => ?_) (fun c4 => ?_)
        · replace hm := hm_t c4 hm
          refine q_aload_n (pc := 28) C dX2_nameOf_28 rfl 0 rfl ?_
          refine q_get (pc := 29) (T := TX2) (v := .ref (gad G 3)) C (by decide) (ce_1 _ _ _) (ci := 2) rfl inlX2 (j := 1) (by decide) rfl tw_38 (Or.inl rfl) dX2_nameOf_29 ?_
          refine q_iload_n (pc := 32) C dX2_nameOf_32 rfl 1 rfl ?_
          refine q_iconst (pc := 33) (v := (3 : Int32)) C dX2_nameOf_33 (by decide) ?_
          refine q_imul (pc := 34) C dX2_nameOf_34 ?_
          refine q_iload_n (pc := 35) C dX2_nameOf_35 rfl 2 rfl ?_
          refine q_iadd (pc := 36) C dX2_nameOf_36 ?_
          obtain ⟨b2, hm⟩ := oi_some hm
          refine q_iald (pc := 37) C (by decide) (ce_3 _ _ _) (ty_3 _) b2 dX2_nameOf_37 ?_
          cases hm
          exact q_iret (pc := 38) C dX2_nameOf_38
        · replace hm := hm_f c4 hm
          refine q_iconst (pc := 26) (v := (-1 : Int32)) C dX2_nameOf_26 (by decide) ?_
          cases hm
          exact q_iret (pc := 27) C dX2_nameOf_27
set_option maxRecDepth 100000 in
theorem w_Gr_addNamedBy_6_L2 {G : Gx} (hi : qinj (gad G)) {X : Cx} (C : QC G X cX2_addNamedBy 4 RX2 1 22 none) {Q : State → Prop} : ∀ (n : Nat) (S : St) (v1 : Int32) (v3 : Int32) (zS : St), m_Gr_addNamedBy_L2 6 n S v1 v3 = some zS → QW G X 4 Q 27 [] [] zS → QW G X 4 Q 2 [(0, .ref (gad G 1)), (1, .int v1), (2, .ref (gad G 6)), (3, .int v3)] [] S := by
  intro n
  induction n with
  | zero =>
    intro S v1 v3 zS hm kk
    rw [m_Gr_addNamedBy_L2] at hm
    cases hm
  | succ n ih =>
    intro S v1 v3 zS hm kk
    rw [m_Gr_addNamedBy_L2] at hm
    refine q_iload_n (pc := 2) C dX2_addNamedBy_2 rfl 3 rfl ?_
    refine q_aload_n (pc := 3) C dX2_addNamedBy_3 rfl 0 rfl ?_
    refine q_iload_n (pc := 4) C dX2_addNamedBy_4 rfl 1 rfl ?_
    obtain ⟨r1, h1, hm⟩ := o1_some hm
    refine q_callV (pc := 5) (k := 1) (As := [.int v1]) (rest := [.int v3]) (T := TX2) C (c_Gr_fieldsOf hi h1) (by decide) (ce_1 _ _ _) (ci := 2) rfl tw_278 tw_279 tw_280 tw_13 tw_281 (nA := 1) (by decide +kernel) rfl (by decide) (Nat.le_of_ble_eq_true rfl) rfl dX2_addNamedBy_5 ?_
    refine q_icmp_ge (pc := 8) (tgt := 27) C dX2_addNamedBy_8 (by decide) (fun c1 => ?_) (fun c1 => ?_)
    · replace hm := hm_t c1 hm
      cases hm
      refine q_lv (lv' := []) [] rfl ?_
      exact kk
    · replace hm := hm_f c1 hm
      refine q_aload_n (pc := 11) C dX2_addNamedBy_11 rfl 2 rfl ?_
      refine q_aload_n (pc := 12) C dX2_addNamedBy_12 rfl 0 rfl ?_
      refine q_iload_n (pc := 13) C dX2_addNamedBy_13 rfl 1 rfl ?_
      refine q_iload_n (pc := 14) C dX2_addNamedBy_14 rfl 3 rfl ?_
      obtain ⟨r2, h2, hm⟩ := o1_some hm
      refine q_callV (pc := 15) (k := 1) (As := [.int v1, .int v3]) (rest := [.ref (gad G 6)]) (T := TX2) C (c_Gr_nameOf hi h2) (by decide) (ce_1 _ _ _) (ci := 2) rfl tw_282 tw_283 tw_284 tw_13 tw_285 (nA := 2) (by decide +kernel) rfl (by decide) (Nat.le_of_ble_eq_true rfl) rfl dX2_addNamedBy_15 ?_
      obtain ⟨S1, h3, hm⟩ := o1_some hm
      refine q_callV (pc := 18) (k := 6) (As := [.int r2]) (rest := []) (T := TX5) C (c_Row_add_6 hi h3) (by decide) (ce_6 _ _ _) (ci := 5) rfl tw_266 tw_267 tw_268 tw_43 tw_269 (nA := 1) (by decide +kernel) rfl (by decide) (Nat.le_of_ble_eq_true rfl) rfl dX2_addNamedBy_18 ?_
      refine q_iinc (pc := 21) (k := 3) (v := (v3 + (1 : Int32))) (lv' := [(3, .int (v3 + (1 : Int32))), (0, .ref (gad G 1)), (1, .int v1), (2, .ref (gad G 6))]) C dX2_addNamedBy_21 rfl rfl (by decide) rfl ?_
      refine q_goto (pc := 24) (tgt := 2) C dX2_addNamedBy_24 (by decide) ?_
      refine q_lv (lv' := [(0, .ref (gad G 1)), (1, .int v1), (2, .ref (gad G 6)), (3, .int (v3 + (1 : Int32)))]) [1, 2, 3, 0] rfl ?_
      exact ih _ _ _ _ hm kk
set_option maxRecDepth 100000 in
theorem c_Gr_addNamedBy_6 {G : Gx} (hi : qinj (gad G)) {S : St} {a1 : Int32} {zS : St} (hm : m_Gr_addNamedBy 6 S a1 = some zS) : QMet G yX2_addNamedBy cX2_addNamedBy 4 none 1 22 [.ref (gad G 1), .int a1, .ref (gad G 6)] S none zS := by
  refine q_entry (by decide +kernel) rfl hi (Nat.le_of_ble_eq_true rfl) ?_
  intro X C
  refine q_lv (lv' := [(0, .ref (gad G 1)), (1, .int a1), (2, .ref (gad G 6))]) [0, 1, 2] rfl ?_
  unfold m_Gr_addNamedBy at hm
  refine q_iconst (pc := 0) (v := (0 : Int32)) C dX2_addNamedBy_0 (by decide) ?_
  refine q_istore_n (pc := 1) (lv' := [(3, .int (0 : Int32)), (0, .ref (gad G 1)), (1, .int a1), (2, .ref (gad G 6))]) C dX2_addNamedBy_1 rfl (by decide) rfl ?_
  refine q_lv (lv' := [(0, .ref (gad G 1)), (1, .int a1), (2, .ref (gad G 6)), (3, .int (0 : Int32))]) [1, 2, 3, 0] rfl ?_
  obtain ⟨S1, h1, hm⟩ := o1_some hm
  refine w_Gr_addNamedBy_6_L2 hi C 200 _ _ _ _ h1 ?_
  cases hm
  exact q_vret (pc := 27) C dX2_addNamedBy_27
set_option maxRecDepth 100000 in
theorem w_Gr_trace_6_L6 {G : Gx} (hi : qinj (gad G)) {X : Cx} (C : QC G X cX2_trace 4 RX2 2 45 none) {Q : State → Prop} : ∀ (n : Nat) (S : St) (v2 : Int32) (v3 : Int32) (zS : St), m_Gr_trace_L6 6 n S v2 v3 = some zS → QW G X 4 Q 33 [(0, .ref (gad G 1)), (1, .ref (gad G 6))] [] zS → QW G X 4 Q 6 [(0, .ref (gad G 1)), (1, .ref (gad G 6)), (2, .int v2), (3, .int v3)] [] S := by
  intro n
  induction n with
  | zero =>
    intro S v2 v3 zS hm kk
    rw [m_Gr_trace_L6] at hm
    cases hm
  | succ n ih =>
    intro S v2 v3 zS hm kk
    rw [m_Gr_trace_L6] at hm
    refine q_iload_n (pc := 6) C dX2_trace_6 rfl 3 rfl ?_
    refine q_bipush (pc := 7) (v := (6 : Int32)) C dX2_trace_7 (by decide) ?_
    refine q_icmp_ge (pc := 9) (tgt := 33) C dX2_trace_9 (by decide) (fun c1 => ?_) (fun c1 => ?_)
    · replace hm := hm_t c1 hm
      cases hm
      refine q_lv (lv' := [(0, .ref (gad G 1)), (1, .ref (gad G 6))]) [0, 1] rfl ?_
      exact kk
    · replace hm := hm_f c1 hm
      refine q_iload_n (pc := 12) C dX2_trace_12 rfl 3 rfl ?_
      refine q_iload_n (pc := 13) C dX2_trace_13 rfl 2 rfl ?_
      refine q_icmp_eq (pc := 14) (tgt := 27) C dX2_trace_14 (by decide) (fun c2 => ?_) (fun c2 => ?_)
      · replace hm := hm_t c2 hm
        refine q_iinc (pc := 27) (k := 3) (v := (v3 + (1 : Int32))) (lv' := [(3, .int (v3 + (1 : Int32))), (0, .ref (gad G 1)), (1, .ref (gad G 6)), (2, .int v2)]) C dX2_trace_27 rfl rfl (by decide) rfl ?_
        refine q_goto (pc := 30) (tgt := 6) C dX2_trace_30 (by decide) ?_
        refine q_lv (lv' := [(0, .ref (gad G 1)), (1, .ref (gad G 6)), (2, .int v2), (3, .int (v3 + (1 : Int32)))]) [1, 2, 3, 0] rfl ?_
        exact ih _ _ _ _ hm kk
      · replace hm := hm_f c2 hm
        refine q_aload_n (pc := 17) C dX2_trace_17 rfl 1 rfl ?_
        refine q_aload_n (pc := 18) C dX2_trace_18 rfl 0 rfl ?_
        refine q_get (pc := 19) (T := TX2) (v := .ref (gad G 4)) C (by decide) (ce_1 _ _ _) (ci := 2) rfl inlX2 (j := 2) (by decide) rfl tw_39 (Or.inl rfl) dX2_trace_19 ?_
        refine q_iload_n (pc := 22) C dX2_trace_22 rfl 3 rfl ?_
        obtain ⟨b1, hm⟩ := oi_some hm
        refine q_iald (pc := 23) C (by decide) (ce_4 _ _ _) (ty_4 _) b1 dX2_trace_23 ?_
        obtain ⟨S1, h1, hm⟩ := o1_some hm
        refine q_callV (pc := 24) (k := 6) (As := [.int (S 4 v3.toNatClampNeg)]) (rest := []) (T := TX5) C (c_Row_add_6 hi h1) (by decide) (ce_6 _ _ _) (ci := 5) rfl tw_266 tw_267 tw_268 tw_43 tw_269 (nA := 1) (by decide +kernel) rfl (by decide) (Nat.le_of_ble_eq_true rfl) rfl dX2_trace_24 ?_
        refine q_iinc (pc := 27) (k := 3) (v := (v3 + (1 : Int32))) (lv' := [(3, .int (v3 + (1 : Int32))), (0, .ref (gad G 1)), (1, .ref (gad G 6)), (2, .int v2)]) C dX2_trace_27 rfl rfl (by decide) rfl ?_
        refine q_goto (pc := 30) (tgt := 6) C dX2_trace_30 (by decide) ?_
        refine q_lv (lv' := [(0, .ref (gad G 1)), (1, .ref (gad G 6)), (2, .int v2), (3, .int (v3 + (1 : Int32)))]) [1, 2, 3, 0] rfl ?_
        exact ih _ _ _ _ hm kk
set_option maxRecDepth 100000 in
theorem w_Gr_trace_6_L35 {G : Gx} (hi : qinj (gad G)) {X : Cx} (C : QC G X cX2_trace 4 RX2 2 45 none) {Q : State → Prop} : ∀ (n : Nat) (S : St) (v3 : Int32) (zS : St), m_Gr_trace_L35 6 n S v3 = some zS → QW G X 4 Q 65 [] [] zS → QW G X 4 Q 35 [(0, .ref (gad G 1)), (1, .ref (gad G 6)), (3, .int v3)] [] S := by
  intro n
  induction n with
  | zero =>
    intro S v3 zS hm kk
    rw [m_Gr_trace_L35] at hm
    cases hm
  | succ n ih =>
    intro S v3 zS hm kk
    rw [m_Gr_trace_L35] at hm
    refine q_iload_n (pc := 35) C dX2_trace_35 rfl 2 rfl ?_
    refine q_aload_n (pc := 36) C dX2_trace_36 rfl 1 rfl ?_
    refine q_get (pc := 37) (T := TX5) (v := .int (S 6 2)) C (by decide) (ce_6 _ _ _) (ci := 5) rfl inlX5 (j := 2) (by decide) rfl tw_265 (Or.inl rfl) dX2_trace_37 ?_
    refine q_icmp_ge (pc := 40) (tgt := 65) C dX2_trace_40 (by decide) (fun c1 => ?_) (fun c1 => ?_)
    · replace hm := hm_t c1 hm
      cases hm
      refine q_lv (lv' := []) [] rfl ?_
      exact kk
    · replace hm := hm_f c1 hm
      refine q_iload_n (pc := 43) C dX2_trace_43 rfl 2 rfl ?_
      refine q_bipush (pc := 44) (v := (80 : Int32)) C dX2_trace_44 (by decide) ?_
      refine q_icmp_ge (pc := 46) (tgt := 65) C dX2_trace_46 (by decide) (fun c2 => ?_) (fun c2 => ?_)
      · replace hm := hm_t c2 hm
        cases hm
        refine q_lv (lv' := []) [] rfl ?_
        exact kk
      · replace hm := hm_f c2 hm
        refine q_aload_n (pc := 49) C dX2_trace_49 rfl 0 rfl ?_
        refine q_aload_n (pc := 50) C dX2_trace_50 rfl 1 rfl ?_
        refine q_iload_n (pc := 51) C dX2_trace_51 rfl 2 rfl ?_
        obtain ⟨r1, h1, hm⟩ := o1_some hm
        refine q_callV (pc := 52) (k := 6) (As := [.int v3]) (rest := [.ref (gad G 1)]) (T := TX5) C (c_Row_get_6 hi h1) (by decide) (ce_6 _ _ _) (ci := 5) rfl tw_270 tw_271 tw_272 tw_43 tw_273 (nA := 1) (by decide +kernel) rfl (by decide) (Nat.le_of_ble_eq_true rfl) rfl dX2_trace_52 ?_
        refine q_aload_n (pc := 55) C dX2_trace_55 rfl 1 rfl ?_
        obtain ⟨S1, h2, hm⟩ := o1_some hm
        refine q_callV (pc := 56) (k := 1) (As := [.int r1, .ref (gad G 6)]) (rest := []) (T := TX2) C (c_Gr_addNamedBy_6 hi h2) (by decide) (ce_1 _ _ _) (ci := 2) rfl tw_274 tw_275 tw_276 tw_13 tw_277 (nA := 2) (by decide +kernel) rfl (by decide) (Nat.le_of_ble_eq_true rfl) rfl dX2_trace_56 ?_
        refine q_iinc (pc := 59) (k := 2) (v := (v3 + (1 : Int32))) (lv' := [(3, .int (v3 + (1 : Int32))), (0, .ref (gad G 1)), (1, .ref (gad G 6))]) C dX2_trace_59 rfl rfl (by decide) rfl ?_
        refine q_goto (pc := 62) (tgt := 35) C dX2_trace_62 (by decide) ?_
        refine q_lv (lv' := [(0, .ref (gad G 1)), (1, .ref (gad G 6)), (3, .int (v3 + (1 : Int32)))]) [1, 2, 0] rfl ?_
        exact ih _ _ _ hm kk
set_option maxRecDepth 100000 in
theorem c_Gr_trace_6 {G : Gx} (hi : qinj (gad G)) {S : St} {a2 : Int32} {zS : St} (hm : m_Gr_trace 6 S a2 = some zS) : QMet G yX2_trace cX2_trace 4 none 2 45 [.ref (gad G 1), .ref (gad G 6), .int a2] S none zS := by
  refine q_entry (by decide +kernel) rfl hi (Nat.le_of_ble_eq_true rfl) ?_
  intro X C
  refine q_lv (lv' := [(0, .ref (gad G 1)), (1, .ref (gad G 6)), (2, .int a2)]) [0, 1, 2] rfl ?_
  unfold m_Gr_trace at hm
  refine q_aload_n (pc := 0) C dX2_trace_0 rfl 1 rfl ?_
  obtain ⟨S1, h1, hm⟩ := o1_some hm
  refine q_callV (pc := 1) (k := 6) (As := []) (rest := []) (T := TX5) C (c_Row_empty_6 hi h1) (by decide) (ce_6 _ _ _) (ci := 5) rfl tw_123 tw_124 tw_125 tw_43 tw_126 (nA := 0) (by decide +kernel) rfl (by decide) (Nat.le_of_ble_eq_true rfl) rfl dX2_trace_1 ?_
  refine q_iconst (pc := 4) (v := (0 : Int32)) C dX2_trace_4 (by decide) ?_
  refine q_istore_n (pc := 5) (lv' := [(3, .int (0 : Int32)), (0, .ref (gad G 1)), (1, .ref (gad G 6)), (2, .int a2)]) C dX2_trace_5 rfl (by decide) rfl ?_
  refine q_lv (lv' := [(0, .ref (gad G 1)), (1, .ref (gad G 6)), (2, .int a2), (3, .int (0 : Int32))]) [1, 2, 3, 0] rfl ?_
  obtain ⟨S2, h2, hm⟩ := o1_some hm
  refine w_Gr_trace_6_L6 hi C 200 _ _ _ _ h2 ?_
  refine q_iconst (pc := 33) (v := (0 : Int32)) C dX2_trace_33 (by decide) ?_
  refine q_istore_n (pc := 34) (lv' := [(3, .int (0 : Int32)), (0, .ref (gad G 1)), (1, .ref (gad G 6))]) C dX2_trace_34 rfl (by decide) rfl ?_
  refine q_lv (lv' := [(0, .ref (gad G 1)), (1, .ref (gad G 6)), (3, .int (0 : Int32))]) [1, 2, 0] rfl ?_
  obtain ⟨S3, h3, hm⟩ := o1_some hm
  refine w_Gr_trace_6_L35 hi C 200 _ _ _ h3 ?_
  cases hm
  exact q_vret (pc := 65) C dX2_trace_65
set_option maxRecDepth 100000 in
theorem w_Arr_fill_80_5_L5 {G : Gx} (hi : qinj (gad G)) {X : Cx} (C : QC G X cJ7_fill_53178 4 RJ7 0 0 none) {Q : State → Prop} : ∀ (n : Nat) (S : St) (v1 : Int32) (v2 : Int32) (v3 : Int32) (zS : St), m_Arr_fill_80_L5 5 n S v1 v2 v3 = some zS → QW G X 4 Q 20 [] [] zS → QW G X 4 Q 5 [(0, .ref (gad G 5)), (1, .int v1), (2, .int v2), (3, .int v3)] [] S := by
  intro n
  induction n with
  | zero =>
    intro S v1 v2 v3 zS hm kk
    rw [m_Arr_fill_80_L5] at hm
    cases hm
  | succ n ih =>
    intro S v1 v2 v3 zS hm kk
    rw [m_Arr_fill_80_L5] at hm
    refine q_iload_n (pc := 5) C dJ7_fill_53178_5 rfl 2 rfl ?_
    refine q_iload_n (pc := 6) C dJ7_fill_53178_6 rfl 3 rfl ?_
    refine q_icmp_ge (pc := 7) (tgt := 20) C dJ7_fill_53178_7 (by decide) (fun c1 => ?_) (fun c1 => ?_)
    · replace hm := hm_t c1 hm
      cases hm
      refine q_lv (lv' := []) [] rfl ?_
      exact kk
    · replace hm := hm_f c1 hm
      refine q_aload_n (pc := 10) C dJ7_fill_53178_10 rfl 0 rfl ?_
      refine q_iload_n (pc := 11) C dJ7_fill_53178_11 rfl 2 rfl ?_
      refine q_iload_n (pc := 12) C dJ7_fill_53178_12 rfl 1 rfl ?_
      obtain ⟨b1, hm⟩ := oi_some hm
      refine q_iast (pc := 13) C (by decide) (fun _ => ce_5 _ _ _) (ty_5 _) b1 dJ7_fill_53178_13 ?_
      refine q_iinc (pc := 14) (k := 2) (v := (v2 + (1 : Int32))) (lv' := [(2, .int (v2 + (1 : Int32))), (0, .ref (gad G 5)), (1, .int v1), (3, .int v3)]) C dJ7_fill_53178_14 rfl rfl (by decide) rfl ?_
      refine q_goto (pc := 17) (tgt := 5) C dJ7_fill_53178_17 (by decide) ?_
      refine q_lv (lv' := [(0, .ref (gad G 5)), (1, .int v1), (2, .int (v2 + (1 : Int32))), (3, .int v3)]) [1, 2, 0, 3] rfl ?_
      exact ih _ _ _ _ _ hm kk
set_option maxRecDepth 100000 in
theorem c_Arr_fill_80_5 {G : Gx} (hi : qinj (gad G)) {S : St} {a1 : Int32} {zS : St} (hm : m_Arr_fill_80 5 S a1 = some zS) : QMet G yJ7_fill_53178 cJ7_fill_53178 4 none 0 0 [.ref (gad G 5), .int a1] S none zS := by
  refine q_entry (by decide +kernel) rfl hi (Nat.le_of_ble_eq_true rfl) ?_
  intro X C
  refine q_lv (lv' := [(0, .ref (gad G 5)), (1, .int a1)]) [0, 1] rfl ?_
  unfold m_Arr_fill_80 at hm
  refine q_iconst (pc := 0) (v := (0 : Int32)) C dJ7_fill_53178_0 (by decide) ?_
  refine q_istore_n (pc := 1) (lv' := [(2, .int (0 : Int32)), (0, .ref (gad G 5)), (1, .int a1)]) C dJ7_fill_53178_1 rfl (by decide) rfl ?_
  refine q_aload_n (pc := 2) C dJ7_fill_53178_2 rfl 1 rfl ?_
  refine q_alen (pc := 3) (v := (80 : Int32)) C (by decide) (ce_5 _ _ _) (ty_5 _) (by decide) dJ7_fill_53178_3 ?_
  refine q_istore_n (pc := 4) (lv' := [(3, .int (80 : Int32)), (2, .int (0 : Int32)), (0, .ref (gad G 5)), (1, .int a1)]) C dJ7_fill_53178_4 rfl (by decide) rfl ?_
  refine q_lv (lv' := [(0, .ref (gad G 5)), (1, .int a1), (2, .int (0 : Int32)), (3, .int (80 : Int32))]) [2, 3, 1, 0] rfl ?_
  obtain ⟨S1, h1, hm⟩ := o1_some hm
  refine w_Arr_fill_80_5_L5 hi C 200 _ _ _ _ _ h1 ?_
  cases hm
  exact q_vret (pc := 20) C dJ7_fill_53178_20
set_option maxRecDepth 100000 in
theorem c_Gr_isThing {G : Gx} (hi : qinj (gad G)) {S : St} {a1 : Int32} {zr : Int32} (hm : m_Gr_isThing S a1 = some zr) : QMet G yX2_isThing cX2_isThing 2 (some .boolean) 0 0 [.ref (gad G 1), .int a1] S (some (.int zr)) S := by
  refine q_entry (by decide +kernel) rfl hi (Nat.le_of_ble_eq_true rfl) ?_
  intro X C
  refine q_lv (lv' := [(0, .ref (gad G 1)), (1, .int a1)]) [0, 1] rfl ?_
  unfold m_Gr_isThing at hm
  refine q_iload_n (pc := 0) C dX2_isThing_0 rfl 1 rfl ?_
  refine q_if_lt (pc := 1) (tgt := 16) C dX2_isThing_1 (by decide) (fun c1 => ?_) (fun c1 => ?_)
  · replace hm := hm_t c1 hm
    refine q_iconst (pc := 16) (v := (0 : Int32)) C dX2_isThing_16 (by decide) ?_
    cases hm
    exact q_zret (pc := 17) C (by decide) dX2_isThing_17
  · replace hm := hm_f c1 hm
    refine q_iload_n (pc := 4) C dX2_isThing_4 rfl 1 rfl ?_
    refine q_aload_n (pc := 5) C dX2_isThing_5 rfl 0 rfl ?_
    refine q_get (pc := 6) (T := TX2) (v := .int (S 1 6)) C (by decide) (ce_1 _ _ _) (ci := 2) rfl inlX2 (j := 6) (by decide) rfl tw_118 (Or.inl rfl) dX2_isThing_6 ?_
    refine q_icmp_ge (pc := 9) (tgt := 16) C dX2_isThing_9 (by decide) (fun c2 => ?_) (fun c2 => ?_)
    · replace hm := hm_t c2 hm
      refine q_iconst (pc := 16) (v := (0 : Int32)) C dX2_isThing_16 (by decide) ?_
      cases hm
      exact q_zret (pc := 17) C (by decide) dX2_isThing_17
    · replace hm := hm_f c2 hm
      refine q_iconst (pc := 12) (v := (1 : Int32)) C dX2_isThing_12 (by decide) ?_
      refine q_goto (pc := 13) (tgt := 17) C dX2_isThing_13 (by decide) ?_
      cases hm
      exact q_zret (pc := 17) C (by decide) dX2_isThing_17
set_option maxRecDepth 100000 in
theorem c_Gr_distanceOf {G : Gx} (hi : qinj (gad G)) {S : St} {a1 : Int32} {zr : Int32} (hm : m_Gr_distanceOf S a1 = some zr) : QMet G yX2_distanceOf cX2_distanceOf 2 (some .int) 1 21 [.ref (gad G 1), .int a1] S (some (.int zr)) S := by
  refine q_entry (by decide +kernel) rfl hi (Nat.le_of_ble_eq_true rfl) ?_
  intro X C
  refine q_lv (lv' := [(0, .ref (gad G 1)), (1, .int a1)]) [0, 1] rfl ?_
  unfold m_Gr_distanceOf at hm
  refine q_aload_n (pc := 0) C dX2_distanceOf_0 rfl 0 rfl ?_
  refine q_iload_n (pc := 1) C dX2_distanceOf_1 rfl 1 rfl ?_
  obtain ⟨r1, h1, hm⟩ := o1_some hm
  refine q_callV (pc := 2) (k := 1) (As := [.int a1]) (rest := []) (T := TX2) C (c_Gr_isThing hi h1) (by decide) (ce_1 _ _ _) (ci := 2) rfl tw_599 tw_300 tw_301 tw_13 tw_302 (nA := 1) (by decide +kernel) rfl (by decide) (Nat.le_of_ble_eq_true rfl) rfl dX2_distanceOf_2 ?_
  refine q_if_eq (pc := 5) (tgt := 17) C dX2_distanceOf_5 (by decide) (fun c1 => ?_) (fun c1 => ?_)
  · replace hm := hm_t c1 hm
    refine q_iconst (pc := 17) (v := (-1 : Int32)) C dX2_distanceOf_17 (by decide) ?_
    cases hm
    exact q_iret (pc := 18) C dX2_distanceOf_18
  · replace hm := hm_f c1 hm
    refine q_aload_n (pc := 8) C dX2_distanceOf_8 rfl 0 rfl ?_
    refine q_get (pc := 9) (T := TX2) (v := .ref (gad G 5)) C (by decide) (ce_1 _ _ _) (ci := 2) rfl inlX2 (j := 3) (by decide) rfl tw_40 (Or.inl rfl) dX2_distanceOf_9 ?_
    refine q_iload_n (pc := 12) C dX2_distanceOf_12 rfl 1 rfl ?_
    obtain ⟨b1, hm⟩ := oi_some hm
    refine q_iald (pc := 13) C (by decide) (ce_5 _ _ _) (ty_5 _) b1 dX2_distanceOf_13 ?_
    refine q_goto (pc := 14) (tgt := 18) C dX2_distanceOf_14 (by decide) ?_
    cases hm
    exact q_iret (pc := 18) C dX2_distanceOf_18
set_option maxRecDepth 100000 in
theorem w_Gr_measureNamedBy_L10 {G : Gx} (hi : qinj (gad G)) {X : Cx} (C : QC G X cX2_measureNamedBy 5 RX2 2 42 none) {Q : State → Prop} : ∀ (n : Nat) (S : St) (v1 : Int32) (v2 : Int32) (v3 : Int32) (zS : St), m_Gr_measureNamedBy_L10 n S v1 v2 v3 = some zS → QW G X 5 Q 61 [] [] zS → QW G X 5 Q 10 [(0, .ref (gad G 1)), (1, .int v1), (2, .int v2), (3, .int v3)] [] S := by
  intro n
  induction n with
  | zero =>
    intro S v1 v2 v3 zS hm kk
    rw [m_Gr_measureNamedBy_L10] at hm
    cases hm
  | succ n ih =>
    intro S v1 v2 v3 zS hm kk
    rw [m_Gr_measureNamedBy_L10] at hm
    refine q_iload_n (pc := 10) C dX2_measureNamedBy_10 rfl 3 rfl ?_
    refine q_aload_n (pc := 11) C dX2_measureNamedBy_11 rfl 0 rfl ?_
    refine q_iload_n (pc := 12) C dX2_measureNamedBy_12 rfl 1 rfl ?_
    obtain ⟨r1, h1, hm⟩ := o1_some hm
    refine q_callV (pc := 13) (k := 1) (As := [.int v1]) (rest := [.int v3]) (T := TX2) C (c_Gr_fieldsOf hi h1) (by decide) (ce_1 _ _ _) (ci := 2) rfl tw_278 tw_279 tw_280 tw_13 tw_281 (nA := 1) (by decide +kernel) rfl (by decide) (Nat.le_of_ble_eq_true rfl) rfl dX2_measureNamedBy_13 ?_
    refine q_icmp_ge (pc := 16) (tgt := 61) C dX2_measureNamedBy_16 (by decide) (fun c1 => ?_) (fun c1 => ?_)
    · replace hm := hm_t c1 hm
      cases hm
      refine q_lv (lv' := []) [] rfl ?_
      exact kk
    · replace hm := hm_f c1 hm
      refine q_aload_n (pc := 19) C dX2_measureNamedBy_19 rfl 0 rfl ?_
      refine q_iload_n (pc := 20) C dX2_measureNamedBy_20 rfl 1 rfl ?_
      refine q_iload_n (pc := 21) C dX2_measureNamedBy_21 rfl 3 rfl ?_
      obtain ⟨r2, h2, hm⟩ := o1_some hm
      refine q_callV (pc := 22) (k := 1) (As := [.int v1, .int v3]) (rest := []) (T := TX2) C (c_Gr_nameOf hi h2) (by decide) (ce_1 _ _ _) (ci := 2) rfl tw_282 tw_283 tw_284 tw_13 tw_285 (nA := 2) (by decide +kernel) rfl (by decide) (Nat.le_of_ble_eq_true rfl) rfl dX2_measureNamedBy_22 ?_
      refine q_istore (pc := 25) (lv' := [(4, .int r2), (0, .ref (gad G 1)), (1, .int v1), (2, .int v2), (3, .int v3)]) C dX2_measureNamedBy_25 (by decide) rfl ?_
      refine q_aload_n (pc := 27) C dX2_measureNamedBy_27 rfl 1 rfl ?_
      refine q_iload (pc := 28) C dX2_measureNamedBy_28 0 rfl ?_
      obtain ⟨r3, h3, hm⟩ := o1_some hm
      refine q_callV (pc := 30) (k := 1) (As := [.int r2]) (rest := []) (T := TX2) C (c_Gr_isThing hi h3) (by decide) (ce_1 _ _ _) (ci := 2) rfl tw_599 tw_300 tw_301 tw_13 tw_302 (nA := 1) (by decide +kernel) rfl (by decide) (Nat.le_of_ble_eq_true rfl) rfl dX2_measureNamedBy_30 ?_
      refine q_if_eq (pc := 33) (tgt := 55) C dX2_measureNamedBy_33 (by decide) (fun c2 => ?_) (fun c2 => ?_)
      · replace hm := hm_t c2 hm
        refine q_iinc (pc := 55) (k := 4) (v := (v3 + (1 : Int32))) (lv' := [(3, .int (v3 + (1 : Int32))), (4, .int r2), (0, .ref (gad G 1)), (1, .int v1), (2, .int v2)]) C dX2_measureNamedBy_55 rfl rfl (by decide) rfl ?_
        refine q_goto (pc := 58) (tgt := 10) C dX2_measureNamedBy_58 (by decide) ?_
        refine q_lv (lv' := [(0, .ref (gad G 1)), (1, .int v1), (2, .int v2), (3, .int (v3 + (1 : Int32)))]) [2, 3, 4, 0] rfl ?_
        exact ih _ _ _ _ _ hm kk
      · replace hm := hm_f c2 hm
        refine q_aload_n (pc := 36) C dX2_measureNamedBy_36 rfl 1 rfl ?_
        refine q_get (pc := 37) (T := TX2) (v := .ref (gad G 5)) C (by decide) (ce_1 _ _ _) (ci := 2) rfl inlX2 (j := 3) (by decide) rfl tw_40 (Or.inl rfl) dX2_measureNamedBy_37 ?_
        refine q_iload (pc := 40) C dX2_measureNamedBy_40 0 rfl ?_
        obtain ⟨b1, hm⟩ := oi_some hm
        refine q_iald (pc := 42) C (by decide) (ce_5 _ _ _) (ty_5 _) b1 dX2_measureNamedBy_42 ?_
        refine q_iconst (pc := 43) (v := (-1 : Int32)) C dX2_measureNamedBy_43 (by decide) ?_
        refine q_icmp_ne (pc := 44) (tgt := 55) C dX2_measureNamedBy_44 (by decide) (fun c3 => ?_) (fun c3 => ?_)
        · replace hm := hm_f c3 hm
          refine q_iinc (pc := 55) (k := 4) (v := (v3 + (1 : Int32))) (lv' := [(3, .int (v3 + (1 : Int32))), (4, .int r2), (0, .ref (gad G 1)), (1, .int v1), (2, .int v2)]) C dX2_measureNamedBy_55 rfl rfl (by decide) rfl ?_
          refine q_goto (pc := 58) (tgt := 10) C dX2_measureNamedBy_58 (by decide) ?_
          refine q_lv (lv' := [(0, .ref (gad G 1)), (1, .int v1), (2, .int v2), (3, .int (v3 + (1 : Int32)))]) [2, 3, 4, 0] rfl ?_
          exact ih _ _ _ _ _ hm kk
        · replace hm := hm_t c3 hm
          refine q_aload_n (pc := 47) C dX2_measureNamedBy_47 rfl 1 rfl ?_
          refine q_get (pc := 48) (T := TX2) (v := .ref (gad G 5)) C (by decide) (ce_1 _ _ _) (ci := 2) rfl inlX2 (j := 3) (by decide) rfl tw_40 (Or.inl rfl) dX2_measureNamedBy_48 ?_
          refine q_iload (pc := 51) C dX2_measureNamedBy_51 0 rfl ?_
          refine q_iload_n (pc := 53) C dX2_measureNamedBy_53 rfl 3 rfl ?_
          obtain ⟨b2, hm⟩ := oi_some hm
          refine q_iast (pc := 54) C (by decide) (fun _ => ce_5 _ _ _) (ty_5 _) b2 dX2_measureNamedBy_54 ?_
          refine q_iinc (pc := 55) (k := 4) (v := (v3 + (1 : Int32))) (lv' := [(3, .int (v3 + (1 : Int32))), (4, .int r2), (0, .ref (gad G 1)), (1, .int v1), (2, .int v2)]) C dX2_measureNamedBy_55 rfl rfl (by decide) rfl ?_
          refine q_goto (pc := 58) (tgt := 10) C dX2_measureNamedBy_58 (by decide) ?_
          refine q_lv (lv' := [(0, .ref (gad G 1)), (1, .int v1), (2, .int v2), (3, .int (v3 + (1 : Int32)))]) [2, 3, 4, 0] rfl ?_
          exact ih _ _ _ _ _ hm kk
set_option maxRecDepth 100000 in
theorem c_Gr_measureNamedBy {G : Gx} (hi : qinj (gad G)) {S : St} {a1 : Int32} {zS : St} (hm : m_Gr_measureNamedBy S a1 = some zS) : QMet G yX2_measureNamedBy cX2_measureNamedBy 5 none 2 42 [.ref (gad G 1), .int a1] S none zS := by
  refine q_entry (by decide +kernel) rfl hi (Nat.le_of_ble_eq_true rfl) ?_
  intro X C
  refine q_lv (lv' := [(0, .ref (gad G 1)), (1, .int a1)]) [0, 1] rfl ?_
  unfold m_Gr_measureNamedBy at hm
  refine q_aload_n (pc := 0) C dX2_measureNamedBy_0 rfl 0 rfl ?_
  refine q_iload_n (pc := 1) C dX2_measureNamedBy_1 rfl 1 rfl ?_
  obtain ⟨r1, h1, hm⟩ := o1_some hm
  refine q_callV (pc := 2) (k := 1) (As := [.int a1]) (rest := []) (T := TX2) C (c_Gr_distanceOf hi h1) (by decide) (ce_1 _ _ _) (ci := 2) rfl tw_604 tw_605 tw_606 tw_13 tw_607 (nA := 1) (by decide +kernel) rfl (by decide) (Nat.le_of_ble_eq_true rfl) rfl dX2_measureNamedBy_2 ?_
  refine q_iconst (pc := 5) (v := (1 : Int32)) C dX2_measureNamedBy_5 (by decide) ?_
  refine q_iadd (pc := 6) C dX2_measureNamedBy_6 ?_
  refine q_istore_n (pc := 7) (lv' := [(2, .int (r1 + (1 : Int32))), (0, .ref (gad G 1)), (1, .int a1)]) C dX2_measureNamedBy_7 rfl (by decide) rfl ?_
  refine q_iconst (pc := 8) (v := (0 : Int32)) C dX2_measureNamedBy_8 (by decide) ?_
  refine q_istore_n (pc := 9) (lv' := [(3, .int (0 : Int32)), (2, .int (r1 + (1 : Int32))), (0, .ref (gad G 1)), (1, .int a1)]) C dX2_measureNamedBy_9 rfl (by decide) rfl ?_
  refine q_lv (lv' := [(0, .ref (gad G 1)), (1, .int a1), (2, .int (r1 + (1 : Int32))), (3, .int (0 : Int32))]) [2, 3, 1, 0] rfl ?_
  obtain ⟨S1, h2, hm⟩ := o1_some hm
  refine w_Gr_measureNamedBy_L10 hi C 200 _ _ _ _ _ h2 ?_
  cases hm
  exact q_vret (pc := 61) C dX2_measureNamedBy_61
set_option maxRecDepth 100000 in
theorem w_Gr_measure_L19 {G : Gx} (hi : qinj (gad G)) {X : Cx} (C : QC G X cX2_measure 2 RX2 3 68 none) {Q : State → Prop} : ∀ (n : Nat) (S : St) (v1 : Int32) (zS : St), m_Gr_measure_L19 n S v1 = some zS → QW G X 2 Q 56 [(0, .ref (gad G 1))] [] zS → QW G X 2 Q 19 [(0, .ref (gad G 1)), (1, .int v1)] [] S := by
  intro n
  induction n with
  | zero =>
    intro S v1 zS hm kk
    rw [m_Gr_measure_L19] at hm
    cases hm
  | succ n ih =>
    intro S v1 zS hm kk
    rw [m_Gr_measure_L19] at hm
    refine q_iload_n (pc := 19) C dX2_measure_19 rfl 1 rfl ?_
    refine q_bipush (pc := 20) (v := (6 : Int32)) C dX2_measure_20 (by decide) ?_
    refine q_icmp_ge (pc := 22) (tgt := 56) C dX2_measure_22 (by decide) (fun c1 => ?_) (fun c1 => ?_)
    · replace hm := hm_t c1 hm
      cases hm
      refine q_lv (lv' := [(0, .ref (gad G 1))]) [0] rfl ?_
      exact kk
    · replace hm := hm_f c1 hm
      refine q_aload_n (pc := 25) C dX2_measure_25 rfl 0 rfl ?_
      refine q_aload_n (pc := 26) C dX2_measure_26 rfl 0 rfl ?_
      refine q_get (pc := 27) (T := TX2) (v := .ref (gad G 4)) C (by decide) (ce_1 _ _ _) (ci := 2) rfl inlX2 (j := 2) (by decide) rfl tw_39 (Or.inl rfl) dX2_measure_27 ?_
      refine q_iload_n (pc := 30) C dX2_measure_30 rfl 1 rfl ?_
      obtain ⟨b1, hm⟩ := oi_some hm
      refine q_iald (pc := 31) C (by decide) (ce_4 _ _ _) (ty_4 _) b1 dX2_measure_31 ?_
      obtain ⟨r1, h1, hm⟩ := o1_some hm
      refine q_callV (pc := 32) (k := 1) (As := [.int (S 4 v1.toNatClampNeg)]) (rest := []) (T := TX2) C (c_Gr_isThing hi h1) (by decide) (ce_1 _ _ _) (ci := 2) rfl tw_599 tw_300 tw_301 tw_13 tw_302 (nA := 1) (by decide +kernel) rfl (by decide) (Nat.le_of_ble_eq_true rfl) rfl dX2_measure_32 ?_
      refine q_if_eq (pc := 35) (tgt := 50) C dX2_measure_35 (by decide) (fun c2 => ?_) (fun c2 => ?_)
      · replace hm := hm_t c2 hm
        refine q_iinc (pc := 50) (k := 1) (v := (v1 + (1 : Int32))) (lv' := [(1, .int (v1 + (1 : Int32))), (0, .ref (gad G 1))]) C dX2_measure_50 rfl rfl (by decide) rfl ?_
        refine q_goto (pc := 53) (tgt := 19) C dX2_measure_53 (by decide) ?_
        refine q_lv (lv' := [(0, .ref (gad G 1)), (1, .int (v1 + (1 : Int32)))]) [1, 0] rfl ?_
        exact ih _ _ _ hm kk
      · replace hm := hm_f c2 hm
        refine q_aload_n (pc := 38) C dX2_measure_38 rfl 0 rfl ?_
        refine q_get (pc := 39) (T := TX2) (v := .ref (gad G 5)) C (by decide) (ce_1 _ _ _) (ci := 2) rfl inlX2 (j := 3) (by decide) rfl tw_40 (Or.inl rfl) dX2_measure_39 ?_
        refine q_aload_n (pc := 42) C dX2_measure_42 rfl 0 rfl ?_
        refine q_get (pc := 43) (T := TX2) (v := .ref (gad G 4)) C (by decide) (ce_1 _ _ _) (ci := 2) rfl inlX2 (j := 2) (by decide) rfl tw_39 (Or.inl rfl) dX2_measure_43 ?_
        refine q_iload_n (pc := 46) C dX2_measure_46 rfl 1 rfl ?_
        obtain ⟨b2, hm⟩ := oi_some hm
        refine q_iald (pc := 47) C (by decide) (ce_4 _ _ _) (ty_4 _) b2 dX2_measure_47 ?_
        refine q_iconst (pc := 48) (v := (0 : Int32)) C dX2_measure_48 (by decide) ?_
        obtain ⟨b3, hm⟩ := oi_some hm
        refine q_iast (pc := 49) C (by decide) (fun _ => ce_5 _ _ _) (ty_5 _) b3 dX2_measure_49 ?_
        refine q_iinc (pc := 50) (k := 1) (v := (v1 + (1 : Int32))) (lv' := [(1, .int (v1 + (1 : Int32))), (0, .ref (gad G 1))]) C dX2_measure_50 rfl rfl (by decide) rfl ?_
        refine q_goto (pc := 53) (tgt := 19) C dX2_measure_53 (by decide) ?_
        refine q_lv (lv' := [(0, .ref (gad G 1)), (1, .int (v1 + (1 : Int32)))]) [1, 0] rfl ?_
        exact ih _ _ _ hm kk
set_option maxRecDepth 100000 in
theorem w_Gr_measure_L58 {G : Gx} (hi : qinj (gad G)) {X : Cx} (C : QC G X cX2_measure 2 RX2 3 68 none) {Q : State → Prop} : ∀ (n : Nat) (S : St) (v1 : Int32) (zS : St), m_Gr_measure_L58 n S v1 = some zS → QW G X 2 Q 87 [] [] zS → QW G X 2 Q 58 [(0, .ref (gad G 1)), (1, .int v1)] [] S := by
  intro n
  induction n with
  | zero =>
    intro S v1 zS hm kk
    rw [m_Gr_measure_L58] at hm
    cases hm
  | succ n ih =>
    intro S v1 zS hm kk
    rw [m_Gr_measure_L58] at hm
    refine q_iload_n (pc := 58) C dX2_measure_58 rfl 1 rfl ?_
    refine q_aload_n (pc := 59) C dX2_measure_59 rfl 0 rfl ?_
    refine q_get (pc := 60) (T := TX2) (v := .ref (gad G 6)) C (by decide) (ce_1 _ _ _) (ci := 2) rfl inlX2 (j := 4) (by decide) rfl tw_44 (Or.inl rfl) dX2_measure_60 ?_
    refine q_get (pc := 63) (T := TX5) (v := .int (S 6 2)) C (by decide) (ce_6 _ _ _) (ci := 5) rfl inlX5 (j := 2) (by decide) rfl tw_265 (Or.inl rfl) dX2_measure_63 ?_
    refine q_icmp_ge (pc := 66) (tgt := 87) C dX2_measure_66 (by decide) (fun c1 => ?_) (fun c1 => ?_)
    · replace hm := hm_t c1 hm
      cases hm
      refine q_lv (lv' := []) [] rfl ?_
      exact kk
    · replace hm := hm_f c1 hm
      refine q_aload_n (pc := 69) C dX2_measure_69 rfl 0 rfl ?_
      refine q_aload_n (pc := 70) C dX2_measure_70 rfl 0 rfl ?_
      refine q_get (pc := 71) (T := TX2) (v := .ref (gad G 6)) C (by decide) (ce_1 _ _ _) (ci := 2) rfl inlX2 (j := 4) (by decide) rfl tw_44 (Or.inl rfl) dX2_measure_71 ?_
      refine q_iload_n (pc := 74) C dX2_measure_74 rfl 1 rfl ?_
      obtain ⟨r1, h1, hm⟩ := o1_some hm
      refine q_callV (pc := 75) (k := 6) (As := [.int v1]) (rest := [.ref (gad G 1)]) (T := TX5) C (c_Row_get_6 hi h1) (by decide) (ce_6 _ _ _) (ci := 5) rfl tw_270 tw_271 tw_272 tw_43 tw_273 (nA := 1) (by decide +kernel) rfl (by decide) (Nat.le_of_ble_eq_true rfl) rfl dX2_measure_75 ?_
      obtain ⟨S1, h2, hm⟩ := o1_some hm
      refine q_callV (pc := 78) (k := 1) (As := [.int r1]) (rest := []) (T := TX2) C (c_Gr_measureNamedBy hi h2) (by decide) (ce_1 _ _ _) (ci := 2) rfl tw_600 tw_601 tw_602 tw_13 tw_603 (nA := 1) (by decide +kernel) rfl (by decide) (Nat.le_of_ble_eq_true rfl) rfl dX2_measure_78 ?_
      refine q_iinc (pc := 81) (k := 1) (v := (v1 + (1 : Int32))) (lv' := [(1, .int (v1 + (1 : Int32))), (0, .ref (gad G 1))]) C dX2_measure_81 rfl rfl (by decide) rfl ?_
      refine q_goto (pc := 84) (tgt := 58) C dX2_measure_84 (by decide) ?_
      refine q_lv (lv' := [(0, .ref (gad G 1)), (1, .int (v1 + (1 : Int32)))]) [1, 0] rfl ?_
      exact ih _ _ _ hm kk
set_option maxRecDepth 100000 in
theorem c_Gr_measure {G : Gx} (hi : qinj (gad G)) {S : St}  {zS : St} (hm : m_Gr_measure S  = some zS) : QMet G yX2_measure cX2_measure 2 none 3 68 [.ref (gad G 1)] S none zS := by
  refine q_entry (by decide +kernel) rfl hi (Nat.le_of_ble_eq_true rfl) ?_
  intro X C
  refine q_lv (lv' := [(0, .ref (gad G 1))]) [0] rfl ?_
  unfold m_Gr_measure at hm
  refine q_aload_n (pc := 0) C dX2_measure_0 rfl 0 rfl ?_
  refine q_aload_n (pc := 1) C dX2_measure_1 rfl 0 rfl ?_
  refine q_get (pc := 2) (T := TX2) (v := .ref (gad G 6)) C (by decide) (ce_1 _ _ _) (ci := 2) rfl inlX2 (j := 4) (by decide) rfl tw_44 (Or.inl rfl) dX2_measure_2 ?_
  refine q_iconst (pc := 5) (v := (-1 : Int32)) C dX2_measure_5 (by decide) ?_
  obtain ⟨S1, h1, hm⟩ := o1_some hm
  refine q_callV (pc := 6) (k := 1) (As := [.ref (gad G 6), .int (-1 : Int32)]) (rest := []) (T := TX2) C (c_Gr_trace_6 hi h1) (by decide) (ce_1 _ _ _) (ci := 2) rfl tw_598 tw_262 tw_263 tw_13 tw_264 (nA := 2) (by decide +kernel) rfl (by decide) (Nat.le_of_ble_eq_true rfl) rfl dX2_measure_6 ?_
  refine q_aload_n (pc := 9) C dX2_measure_9 rfl 0 rfl ?_
  refine q_get (pc := 10) (T := TX2) (v := .ref (gad G 5)) C (by decide) (ce_1 _ _ _) (ci := 2) rfl inlX2 (j := 3) (by decide) rfl tw_40 (Or.inl rfl) dX2_measure_10 ?_
  refine q_iconst (pc := 13) (v := (-1 : Int32)) C dX2_measure_13 (by decide) ?_
  obtain ⟨S2, h2, hm⟩ := o1_some hm
  refine q_callS (pc := 14) (As := [.ref (gad G 5), .int (-1 : Int32)]) (rest := []) C (c_Arr_fill_80_5 hi h2) tw_119 tw_120 tw_121 tw_122 (nA := 2) (by decide +kernel) rfl (by decide) (Nat.le_of_ble_eq_true rfl) rfl dX2_measure_14 ?_
  refine q_iconst (pc := 17) (v := (0 : Int32)) C dX2_measure_17 (by decide) ?_
  refine q_istore_n (pc := 18) (lv' := [(1, .int (0 : Int32)), (0, .ref (gad G 1))]) C dX2_measure_18 rfl (by decide) rfl ?_
  refine q_lv (lv' := [(0, .ref (gad G 1)), (1, .int (0 : Int32))]) [1, 0] rfl ?_
  obtain ⟨S3, h3, hm⟩ := o1_some hm
  refine w_Gr_measure_L19 hi C 200 _ _ _ h3 ?_
  refine q_iconst (pc := 56) (v := (0 : Int32)) C dX2_measure_56 (by decide) ?_
  refine q_istore_n (pc := 57) (lv' := [(1, .int (0 : Int32)), (0, .ref (gad G 1))]) C dX2_measure_57 rfl (by decide) rfl ?_
  refine q_lv (lv' := [(0, .ref (gad G 1)), (1, .int (0 : Int32))]) [1, 0] rfl ?_
  obtain ⟨S4, h4, hm⟩ := o1_some hm
  refine w_Gr_measure_L58 hi C 200 _ _ _ h4 ?_
  cases hm
  exact q_vret (pc := 87) C dX2_measure_87
set_option maxRecDepth 100000 in
theorem c_Gr_nameByRoot {G : Gx} (hi : qinj (gad G)) {S : St} {a1 : Int32} {a2 : Int32} {zS : St} (hm : m_Gr_nameByRoot S a1 a2 = some zS) : QMet G yX2_nameByRoot cX2_nameByRoot 3 none 4 89 [.ref (gad G 1), .int a1, .int a2] S none zS := by
  refine q_entry (by decide +kernel) rfl hi (Nat.le_of_ble_eq_true rfl) ?_
  intro X C
  refine q_lv (lv' := [(0, .ref (gad G 1)), (1, .int a1), (2, .int a2)]) [0, 1, 2] rfl ?_
  unfold m_Gr_nameByRoot at hm
  refine q_iload_n (pc := 0) C dX2_nameByRoot_0 rfl 1 rfl ?_
  refine q_if_lt (pc := 1) (tgt := 21) C dX2_nameByRoot_1 (by decide) (fun c1 => ?_) (fun c1 => ?_)
  · replace hm := hm_t c1 hm
    cases hm
    exact q_vret (pc := 21) C dX2_nameByRoot_21
  · replace hm := hm_f c1 hm
    refine q_iload_n (pc := 4) C dX2_nameByRoot_4 rfl 1 rfl ?_
    refine q_bipush (pc := 5) (v := (6 : Int32)) C dX2_nameByRoot_5 (by decide) ?_
    refine q_icmp_ge (pc := 7) (tgt := 21) C dX2_nameByRoot_7 (by decide) (fun c2 => ?_) (fun c2 => ?_)
    · replace hm := hm_t c2 hm
      cases hm
      exact q_vret (pc := 21) C dX2_nameByRoot_21
    · replace hm := hm_f c2 hm
      refine q_aload_n (pc := 10) C dX2_nameByRoot_10 rfl 0 rfl ?_
      refine q_get (pc := 11) (T := TX2) (v := .ref (gad G 4)) C (by decide) (ce_1 _ _ _) (ci := 2) rfl inlX2 (j := 2) (by decide) rfl tw_39 (Or.inl rfl) dX2_nameByRoot_11 ?_
      refine q_iload_n (pc := 14) C dX2_nameByRoot_14 rfl 1 rfl ?_
      refine q_iload_n (pc := 15) C dX2_nameByRoot_15 rfl 2 rfl ?_
      obtain ⟨b1, hm⟩ := oi_some hm
      refine q_iast (pc := 16) C (by decide) (fun _ => ce_4 _ _ _) (ty_4 _) b1 dX2_nameByRoot_16 ?_
      refine q_aload_n (pc := 17) C dX2_nameByRoot_17 rfl 0 rfl ?_
      obtain ⟨S1, h1, hm⟩ := o1_some hm
      refine q_callV (pc := 18) (k := 1) (As := []) (rest := []) (T := TX2) C (c_Gr_measure hi h1) (by decide) (ce_1 _ _ _) (ci := 2) rfl tw_594 tw_595 tw_596 tw_13 tw_597 (nA := 0) (by decide +kernel) rfl (by decide) (Nat.le_of_ble_eq_true rfl) rfl dX2_nameByRoot_18 ?_
      cases hm
      exact q_vret (pc := 21) C dX2_nameByRoot_21
set_option maxRecDepth 100000 in
theorem c_St_has_42 {G : Gx} (hi : qinj (gad G)) {S : St} {a1 : Int32} {zr : Int32} (hm : m_St_has 42 1 S a1 = some zr) : QMet G yX7_has cX7_has 2 (some .boolean) 0 0 [.ref (gad G 42), .int a1] S (some (.int zr)) S := by
  refine q_entry (by decide +kernel) rfl hi (Nat.le_of_ble_eq_true rfl) ?_
  intro X C
  refine q_lv (lv' := [(0, .ref (gad G 42)), (1, .int a1)]) [0, 1] rfl ?_
  unfold m_St_has at hm
  refine q_iload_n (pc := 0) C dX7_has_0 rfl 1 rfl ?_
  refine q_if_lt (pc := 1) (tgt := 23) C dX7_has_1 (by decide) (fun c1 => ?_) (fun c1 => ?_)
  · replace hm := hm_t c1 hm
    refine q_iconst (pc := 23) (v := (0 : Int32)) C dX7_has_23 (by decide) ?_
    cases hm
    exact q_zret (pc := 24) C (by decide) dX7_has_24
  · replace hm := hm_f c1 hm
    refine q_iload_n (pc := 4) C dX7_has_4 rfl 1 rfl ?_
    refine q_bipush (pc := 5) (v := (80 : Int32)) C dX7_has_5 (by decide) ?_
    refine q_icmp_ge (pc := 7) (tgt := 23) C dX7_has_7 (by decide) (fun c2 => ?_) (fun c2 => ?_)
    · replace hm := hm_t c2 hm
      refine q_iconst (pc := 23) (v := (0 : Int32)) C dX7_has_23 (by decide) ?_
      cases hm
      exact q_zret (pc := 24) C (by decide) dX7_has_24
    · replace hm := hm_f c2 hm
      refine q_aload_n (pc := 10) C dX7_has_10 rfl 0 rfl ?_
      refine q_get (pc := 11) (T := TX1) (v := .ref (gad G 43)) C (by decide) (ce_42 _ _ _) (ci := 1) rfl inlX1 (j := 8) (by decide) rfl tw_65 (Or.inl rfl) dX7_has_11 ?_
      refine q_iload_n (pc := 14) C dX7_has_14 rfl 1 rfl ?_
      obtain ⟨b1, hm⟩ := oi_some hm
      refine q_zald (pc := 15) C (by decide) (ce_43 _ _ _) (ty_43 _) b1 dX7_has_15 ?_
      refine q_if_eq (pc := 16) (tgt := 23) C dX7_has_16 (by decide) (fun c3 => ?_) (fun c3 => ?_)
      · replace hm := hm_t c3 hm
        refine q_iconst (pc := 23) (v := (0 : Int32)) C dX7_has_23 (by decide) ?_
        cases hm
        exact q_zret (pc := 24) C (by decide) dX7_has_24
      · replace hm := hm_f c3 hm
        refine q_iconst (pc := 19) (v := (1 : Int32)) C dX7_has_19 (by decide) ?_
        refine q_goto (pc := 20) (tgt := 24) C dX7_has_20 (by decide) ?_
        cases hm
        exact q_zret (pc := 24) C (by decide) dX7_has_24
set_option maxRecDepth 100000 in
theorem w_Row_empty_49_L2 {G : Gx} (hi : qinj (gad G)) {X : Cx} (C : QC G X cX5_empty 2 RX5 0 0 none) {Q : State → Prop} : ∀ (n : Nat) (S : St) (v1 : Int32) (zS : St), m_Row_empty_L2 49 n S v1 = some zS → QW G X 2 Q 21 [(0, .ref (gad G 49))] [] zS → QW G X 2 Q 2 [(0, .ref (gad G 49)), (1, .int v1)] [] S := by
  intro n
  induction n with
  | zero =>
    intro S v1 zS hm kk
    rw [m_Row_empty_L2] at hm
    cases hm
  | succ n ih =>
    intro S v1 zS hm kk
    rw [m_Row_empty_L2] at hm
    refine q_iload_n (pc := 2) C dX5_empty_2 rfl 1 rfl ?_
    refine q_bipush (pc := 3) (v := (80 : Int32)) C dX5_empty_3 (by decide) ?_
    refine q_icmp_ge (pc := 5) (tgt := 21) C dX5_empty_5 (by decide) (fun c1 => ?_) (fun c1 => ?_)
    · replace hm := hm_t c1 hm
      cases hm
      refine q_lv (lv' := [(0, .ref (gad G 49))]) [0] rfl ?_
      exact kk
    · replace hm := hm_f c1 hm
      refine q_aload_n (pc := 8) C dX5_empty_8 rfl 0 rfl ?_
      refine q_get (pc := 9) (T := TX5) (v := .ref (gad G 51)) C (by decide) (ce_49 _ _ _) (ci := 5) rfl inlX5 (j := 1) (by decide) rfl tw_50 (Or.inl rfl) dX5_empty_9 ?_
      refine q_iload_n (pc := 12) C dX5_empty_12 rfl 1 rfl ?_
      refine q_iconst (pc := 13) (v := (0 : Int32)) C dX5_empty_13 (by decide) ?_
      obtain ⟨b1, hm⟩ := oi_some hm
      refine q_zast0 (pc := 14) C (by decide) (fun _ => ce_51 _ _ _) (ty_51 _) b1 dX5_empty_14 ?_
      refine q_iinc (pc := 15) (k := 1) (v := (v1 + (1 : Int32))) (lv' := [(1, .int (v1 + (1 : Int32))), (0, .ref (gad G 49))]) C dX5_empty_15 rfl rfl (by decide) rfl ?_
      refine q_goto (pc := 18) (tgt := 2) C dX5_empty_18 (by decide) ?_
      refine q_lv (lv' := [(0, .ref (gad G 49)), (1, .int (v1 + (1 : Int32)))]) [1, 0] rfl ?_
      exact ih _ _ _ hm kk
set_option maxRecDepth 100000 in
theorem c_Row_empty_49 {G : Gx} (hi : qinj (gad G)) {S : St}  {zS : St} (hm : m_Row_empty 49 S  = some zS) : QMet G yX5_empty cX5_empty 2 none 0 0 [.ref (gad G 49)] S none zS := by
  refine q_entry (by decide +kernel) rfl hi (Nat.le_of_ble_eq_true rfl) ?_
  intro X C
  refine q_lv (lv' := [(0, .ref (gad G 49))]) [0] rfl ?_
  unfold m_Row_empty at hm
  refine q_iconst (pc := 0) (v := (0 : Int32)) C dX5_empty_0 (by decide) ?_
  refine q_istore_n (pc := 1) (lv' := [(1, .int (0 : Int32)), (0, .ref (gad G 49))]) C dX5_empty_1 rfl (by decide) rfl ?_
  refine q_lv (lv' := [(0, .ref (gad G 49)), (1, .int (0 : Int32))]) [1, 0] rfl ?_
  obtain ⟨S1, h1, hm⟩ := o1_some hm
  refine w_Row_empty_49_L2 hi C 200 _ _ _ h1 ?_
  refine q_aload_n (pc := 21) C dX5_empty_21 rfl 0 rfl ?_
  refine q_iconst (pc := 22) (v := (0 : Int32)) C dX5_empty_22 (by decide) ?_
  refine q_put (pc := 23) (T := TX5) (ty := .int) C tyX5 tyX5_ok nmX5 (by decide) (ce_49 _ _ _) (pe_49_2 _ _ _ _) (ci := 5) rfl inlX5 (j := 2) (by decide) (Nat.le_of_ble_eq_true rfl) tw_127 (Or.inl rfl) rfl (by decide +kernel) rfl rfl dX5_empty_23 ?_
  cases hm
  exact q_vret (pc := 26) C dX5_empty_26
set_option maxRecDepth 100000 in
theorem c_St_letGo_42 {G : Gx} (hi : qinj (gad G)) {S : St} {a1 : Int32} {zS : St} (hm : m_St_letGo 42 1 S a1 = some zS) : QMet G yX7_letGo cX7_letGo 2 none 0 0 [.ref (gad G 42), .int a1] S none zS := by
  refine q_entry (by decide +kernel) rfl hi (Nat.le_of_ble_eq_true rfl) ?_
  intro X C
  refine q_lv (lv' := [(0, .ref (gad G 42)), (1, .int a1)]) [0, 1] rfl ?_
  unfold m_St_letGo at hm
  refine q_iload_n (pc := 0) C dX7_letGo_0 rfl 1 rfl ?_
  refine q_if_lt (pc := 1) (tgt := 17) C dX7_letGo_1 (by decide) (fun c1 => ?_) (fun c1 => ?_)
  · replace hm := hm_t c1 hm
    cases hm
    exact q_vret (pc := 17) C dX7_letGo_17
  · replace hm := hm_f c1 hm
    refine q_iload_n (pc := 4) C dX7_letGo_4 rfl 1 rfl ?_
    refine q_bipush (pc := 5) (v := (80 : Int32)) C dX7_letGo_5 (by decide) ?_
    refine q_icmp_ge (pc := 7) (tgt := 17) C dX7_letGo_7 (by decide) (fun c2 => ?_) (fun c2 => ?_)
    · replace hm := hm_t c2 hm
      cases hm
      exact q_vret (pc := 17) C dX7_letGo_17
    · replace hm := hm_f c2 hm
      refine q_aload_n (pc := 10) C dX7_letGo_10 rfl 0 rfl ?_
      refine q_get (pc := 11) (T := TX1) (v := .ref (gad G 43)) C (by decide) (ce_42 _ _ _) (ci := 1) rfl inlX1 (j := 8) (by decide) rfl tw_65 (Or.inl rfl) dX7_letGo_11 ?_
      refine q_iload_n (pc := 14) C dX7_letGo_14 rfl 1 rfl ?_
      refine q_iconst (pc := 15) (v := (0 : Int32)) C dX7_letGo_15 (by decide) ?_
      obtain ⟨b1, hm⟩ := oi_some hm
      refine q_zast0 (pc := 16) C (by decide) (fun _ => ce_43 _ _ _) (ty_43 _) b1 dX7_letGo_16 ?_
      cases hm
      exact q_vret (pc := 17) C dX7_letGo_17
set_option maxRecDepth 100000 in
theorem c_Row_add_49 {G : Gx} (hi : qinj (gad G)) {S : St} {a1 : Int32} {zS : St} (hm : m_Row_add 49 S a1 = some zS) : QMet G yX5_add cX5_add 2 none 0 0 [.ref (gad G 49), .int a1] S none zS := by
  refine q_entry (by decide +kernel) rfl hi (Nat.le_of_ble_eq_true rfl) ?_
  intro X C
  refine q_lv (lv' := [(0, .ref (gad G 49)), (1, .int a1)]) [0, 1] rfl ?_
  unfold m_Row_add at hm
  refine q_iload_n (pc := 0) C dX5_add_0 rfl 1 rfl ?_
  refine q_if_lt (pc := 1) (tgt := 28) C dX5_add_1 (by decide) (fun c1 => ?_) (fun c1 => ?_)
  · replace hm := hm_t c1 hm
    cases hm
    exact q_vret (pc := 28) C dX5_add_28
  · replace hm := hm_f c1 hm
    refine q_iload_n (pc := 4) C dX5_add_4 rfl 1 rfl ?_
    refine q_bipush (pc := 5) (v := (80 : Int32)) C dX5_add_5 (by decide) ?_
    refine q_icmp_ge (pc := 7) (tgt := 28) C dX5_add_7 (by decide) (fun c2 => ?_) (fun c2 => ?_)
    · replace hm := hm_t c2 hm
      cases hm
      exact q_vret (pc := 28) C dX5_add_28
    · replace hm := hm_f c2 hm
      refine q_aload_n (pc := 10) C dX5_add_10 rfl 0 rfl ?_
      refine q_get (pc := 11) (T := TX5) (v := .ref (gad G 51)) C (by decide) (ce_49 _ _ _) (ci := 5) rfl inlX5 (j := 1) (by decide) rfl tw_50 (Or.inl rfl) dX5_add_11 ?_
      refine q_iload_n (pc := 14) C dX5_add_14 rfl 1 rfl ?_
      obtain ⟨b1, hm⟩ := oi_some hm
      refine q_zald (pc := 15) C (by decide) (ce_51 _ _ _) (ty_51 _) b1 dX5_add_15 ?_
      refine q_if_ne (pc := 16) (tgt := 28) C dX5_add_16 (by decide) (fun c3 => ?_) (fun c3 => ?_)
      · replace hm := hm_f c3 hm
        cases hm
        exact q_vret (pc := 28) C dX5_add_28
      · replace hm := hm_t c3 hm
        refine q_aload_n (pc := 19) C dX5_add_19 rfl 0 rfl ?_
        refine q_get (pc := 20) (T := TX5) (v := .int (S 49 2)) C (by decide) (ce_49 _ _ _) (ci := 5) rfl inlX5 (j := 2) (by decide) rfl tw_127 (Or.inl rfl) dX5_add_20 ?_
        refine q_bipush (pc := 23) (v := (80 : Int32)) C dX5_add_23 (by decide) ?_
        refine q_icmp_lt (pc := 25) (tgt := 29) C dX5_add_25 (by decide) (fun c4 => ?_) (fun c4 => ?_)
        · replace hm := hm_t c4 hm
          refine q_aload_n (pc := 29) C dX5_add_29 rfl 0 rfl ?_
          refine q_get (pc := 30) (T := TX5) (v := .ref (gad G 51)) C (by decide) (ce_49 _ _ _) (ci := 5) rfl inlX5 (j := 1) (by decide) rfl tw_50 (Or.inl rfl) dX5_add_30 ?_
          refine q_iload_n (pc := 33) C dX5_add_33 rfl 1 rfl ?_
          refine q_iconst (pc := 34) (v := (1 : Int32)) C dX5_add_34 (by decide) ?_
          obtain ⟨b2, hm⟩ := oi_some hm
          refine q_zast1 (pc := 35) C (by decide) (fun _ => ce_51 _ _ _) (ty_51 _) b2 dX5_add_35 ?_
          refine q_aload_n (pc := 36) C dX5_add_36 rfl 0 rfl ?_
          refine q_get (pc := 37) (T := TX5) (v := .ref (gad G 50)) C (by decide) (ce_49 _ _ _) (ci := 5) rfl inlX5 (j := 0) (by decide) rfl tw_49 (Or.inl rfl) dX5_add_37 ?_
          refine q_aload_n (pc := 40) C dX5_add_40 rfl 0 rfl ?_
          refine q_get (pc := 41) (T := TX5) (v := .int (S 49 2)) C (by decide) (ce_49 _ _ _) (ci := 5) rfl inlX5 (j := 2) (by decide) rfl tw_127 (Or.inl rfl) dX5_add_41 ?_
          refine q_iload_n (pc := 44) C dX5_add_44 rfl 1 rfl ?_
          obtain ⟨b3, hm⟩ := oi_some hm
          refine q_iast (pc := 45) C (by decide) (fun _ => ce_50 _ _ _) (ty_50 _) b3 dX5_add_45 ?_
          refine q_aload_n (pc := 46) C dX5_add_46 rfl 0 rfl ?_
          refine q_dup (pc := 47) C dX5_add_47 rfl ?_
          refine q_get (pc := 48) (T := TX5) (v := .int (S 49 2)) C (by decide) (ce_49 _ _ _) (ci := 5) rfl inlX5 (j := 2) (by decide) rfl tw_127 (Or.inl rfl) dX5_add_48 ?_
          refine q_iconst (pc := 51) (v := (1 : Int32)) C dX5_add_51 (by decide) ?_
          refine q_iadd (pc := 52) C dX5_add_52 ?_
          refine q_put (pc := 53) (T := TX5) (ty := .int) C tyX5 tyX5_ok nmX5 (by decide) (ce_49 _ _ _) (pe_49_2 _ _ _ _) (ci := 5) rfl inlX5 (j := 2) (by decide) (Nat.le_of_ble_eq_true rfl) tw_127 (Or.inl rfl) rfl (by decide +kernel) rfl rfl dX5_add_53 ?_
          cases hm
          exact q_vret (pc := 56) C dX5_add_56
        · replace hm := hm_f c4 hm
          cases hm
          exact q_vret (pc := 28) C dX5_add_28
set_option maxRecDepth 100000 in
theorem c_Cou_lowerOnce {G : Gx} (hi : qinj (gad G)) {S : St} {a1 : Int32} {zS : St} (hm : m_Cou_lowerOnce S a1 = some zS) : QMet G yX1_lowerOnce cX1_lowerOnce 2 none 1 21 [.ref (gad G 42), .int a1] S none zS := by
  refine q_entry (by decide +kernel) rfl hi (Nat.le_of_ble_eq_true rfl) ?_
  intro X C
  refine q_lv (lv' := [(0, .ref (gad G 42)), (1, .int a1)]) [0, 1] rfl ?_
  unfold m_Cou_lowerOnce at hm
  refine q_aload_n (pc := 0) C dX1_lowerOnce_0 rfl 0 rfl ?_
  refine q_iload_n (pc := 1) C dX1_lowerOnce_1 rfl 1 rfl ?_
  obtain ⟨r1, h1, hm⟩ := o1_some hm
  refine q_callU (pc := 2) (k := 42) (As := [.int a1]) (rest := []) (T := TX1) (owner := "Tessera$Store") (x := ⟨"Tessera$Counting", "has", "(I)Z"⟩) C (c_St_has_42 hi h1) (by decide) (ce_42 _ _ _) (ci := 1) rfl (Or.inl rfl) tw_365 tw_366 tw_256 tw_367 tw_62 tw_257 (nA := 1) (by decide +kernel) rfl (by decide) (Nat.le_of_ble_eq_true rfl) rfl dX1_lowerOnce_2 ?_
  refine q_if_ne (pc := 5) (tgt := 9) C dX1_lowerOnce_5 (by decide) (fun c1 => ?_) (fun c1 => ?_)
  · replace hm := hm_f c1 hm
    refine q_aload_n (pc := 9) C dX1_lowerOnce_9 rfl 0 rfl ?_
    refine q_get (pc := 10) (T := TX1) (v := .ref (gad G 46)) C (by decide) (ce_42 _ _ _) (ci := 1) rfl inlX1 (j := 11) (by decide) rfl tw_85 (Or.inl rfl) dX1_lowerOnce_10 ?_
    refine q_iload_n (pc := 13) C dX1_lowerOnce_13 rfl 1 rfl ?_
    refine q_dup2 (pc := 14) C dX1_lowerOnce_14 rfl rfl ?_
    obtain ⟨b1, hm⟩ := oi_some hm
    refine q_iald (pc := 15) C (by decide) (ce_46 _ _ _) (ty_46 _) b1 dX1_lowerOnce_15 ?_
    refine q_iconst (pc := 16) (v := (1 : Int32)) C dX1_lowerOnce_16 (by decide) ?_
    refine q_isub (pc := 17) C dX1_lowerOnce_17 ?_
    obtain ⟨b2, hm⟩ := oi_some hm
    refine q_iast (pc := 18) C (by decide) (fun _ => ce_46 _ _ _) (ty_46 _) b2 dX1_lowerOnce_18 ?_
    refine q_aload_n (pc := 19) C dX1_lowerOnce_19 rfl 0 rfl ?_
    refine q_dup (pc := 20) C dX1_lowerOnce_20 rfl ?_
    refine q_get (pc := 21) (T := TX1) (v := .int (S 42 3)) C (by decide) (ce_42 _ _ _) (ci := 1) rfl inlX1 (j := 3) (by decide) rfl tw_350 (Or.inr tw_351) dX1_lowerOnce_21 ?_
    refine q_iconst (pc := 24) (v := (1 : Int32)) C dX1_lowerOnce_24 (by decide) ?_
    refine q_iadd (pc := 25) C dX1_lowerOnce_25 ?_
    refine q_put (pc := 26) (T := TX1) (ty := .int) C tyX1 tyX1_ok nmX1 (by decide) (ce_42 _ _ _) (pe_42_3 _ _ _ _) (ci := 1) rfl inlX1 (j := 3) (by decide) (Nat.le_of_ble_eq_true rfl) tw_350 (Or.inr tw_351) rfl (by decide +kernel) rfl rfl dX1_lowerOnce_26 ?_
    refine q_aload_n (pc := 29) C dX1_lowerOnce_29 rfl 0 rfl ?_
    refine q_get (pc := 30) (T := TX1) (v := .ref (gad G 46)) C (by decide) (ce_42 _ _ _) (ci := 1) rfl inlX1 (j := 11) (by decide) rfl tw_85 (Or.inl rfl) dX1_lowerOnce_30 ?_
    refine q_iload_n (pc := 33) C dX1_lowerOnce_33 rfl 1 rfl ?_
    obtain ⟨b3, hm⟩ := oi_some hm
    refine q_iald (pc := 34) C (by decide) (ce_46 _ _ _) (ty_46 _) b3 dX1_lowerOnce_34 ?_
    refine q_if_le (pc := 35) (tgt := 48) C dX1_lowerOnce_35 (by decide) (fun c2 => ?_) (fun c2 => ?_)
    · replace hm := hm_t c2 hm
      refine q_aload_n (pc := 48) C dX1_lowerOnce_48 rfl 0 rfl ?_
      refine q_iload_n (pc := 49) C dX1_lowerOnce_49 rfl 1 rfl ?_
      obtain ⟨S1, h2, hm⟩ := o1_some hm
      refine q_callU (pc := 50) (k := 42) (As := [.int a1]) (rest := []) (T := TX1) (owner := "Tessera$Store") (x := ⟨"Tessera$Counting", "letGo", "(I)V"⟩) C (c_St_letGo_42 hi h2) (by decide) (ce_42 _ _ _) (ci := 1) rfl (Or.inl rfl) tw_391 tw_392 tw_394 tw_393 tw_62 tw_395 (nA := 1) (by decide +kernel) rfl (by decide) (Nat.le_of_ble_eq_true rfl) rfl dX1_lowerOnce_50 ?_
      refine q_aload_n (pc := 53) C dX1_lowerOnce_53 rfl 0 rfl ?_
      refine q_get (pc := 54) (T := TX1) (v := .ref (gad G 49)) C (by decide) (ce_42 _ _ _) (ci := 1) rfl inlX1 (j := 14) (by decide) rfl tw_89 (Or.inl rfl) dX1_lowerOnce_54 ?_
      refine q_iload_n (pc := 57) C dX1_lowerOnce_57 rfl 1 rfl ?_
      obtain ⟨S2, h3, hm⟩ := o1_some hm
      refine q_callV (pc := 58) (k := 49) (As := [.int a1]) (rest := []) (T := TX5) C (c_Row_add_49 hi h3) (by decide) (ce_49 _ _ _) (ci := 5) rfl tw_368 tw_267 tw_268 tw_43 tw_269 (nA := 1) (by decide +kernel) rfl (by decide) (Nat.le_of_ble_eq_true rfl) rfl dX1_lowerOnce_58 ?_
      cases hm
      exact q_vret (pc := 61) C dX1_lowerOnce_61
    · replace hm := hm_f c2 hm
      refine q_aload_n (pc := 38) C dX1_lowerOnce_38 rfl 0 rfl ?_
      refine q_get (pc := 39) (T := TX1) (v := .ref (gad G 47)) C (by decide) (ce_42 _ _ _) (ci := 1) rfl inlX1 (j := 12) (by decide) rfl tw_86 (Or.inl rfl) dX1_lowerOnce_39 ?_
      refine q_iload_n (pc := 42) C dX1_lowerOnce_42 rfl 1 rfl ?_
      refine q_iconst (pc := 43) (v := (1 : Int32)) C dX1_lowerOnce_43 (by decide) ?_
      obtain ⟨b4, hm⟩ := oi_some hm
      refine q_zast1 (pc := 44) C (by decide) (fun _ => ce_47 _ _ _) (ty_47 _) b4 dX1_lowerOnce_44 ?_
      refine q_goto (pc := 45) (tgt := 61) C dX1_lowerOnce_45 (by decide) ?_
      cases hm
      exact q_vret (pc := 61) C dX1_lowerOnce_61
  · replace hm := hm_t c1 hm
    cases hm
    exact q_vret (pc := 8) C dX1_lowerOnce_8
set_option maxRecDepth 100000 in
theorem c_Row_get_49 {G : Gx} (hi : qinj (gad G)) {S : St} {a1 : Int32} {zr : Int32} (hm : m_Row_get 49 S a1 = some zr) : QMet G yX5_get cX5_get 2 (some .int) 0 0 [.ref (gad G 49), .int a1] S (some (.int zr)) S := by
  refine q_entry (by decide +kernel) rfl hi (Nat.le_of_ble_eq_true rfl) ?_
  intro X C
  refine q_lv (lv' := [(0, .ref (gad G 49)), (1, .int a1)]) [0, 1] rfl ?_
  unfold m_Row_get at hm
  refine q_iload_n (pc := 0) C dX5_get_0 rfl 1 rfl ?_
  refine q_if_lt (pc := 1) (tgt := 21) C dX5_get_1 (by decide) (fun c1 => ?_) (fun c1 => ?_)
  · replace hm := hm_t c1 hm
    refine q_iconst (pc := 21) (v := (-1 : Int32)) C dX5_get_21 (by decide) ?_
    cases hm
    exact q_iret (pc := 22) C dX5_get_22
  · replace hm := hm_f c1 hm
    refine q_iload_n (pc := 4) C dX5_get_4 rfl 1 rfl ?_
    refine q_aload_n (pc := 5) C dX5_get_5 rfl 0 rfl ?_
    refine q_get (pc := 6) (T := TX5) (v := .int (S 49 2)) C (by decide) (ce_49 _ _ _) (ci := 5) rfl inlX5 (j := 2) (by decide) rfl tw_127 (Or.inl rfl) dX5_get_6 ?_
    refine q_icmp_ge (pc := 9) (tgt := 21) C dX5_get_9 (by decide) (fun c2 => ?_) (fun c2 => ?_)
    · replace hm := hm_t c2 hm
      refine q_iconst (pc := 21) (v := (-1 : Int32)) C dX5_get_21 (by decide) ?_
      cases hm
      exact q_iret (pc := 22) C dX5_get_22
    · replace hm := hm_f c2 hm
      refine q_aload_n (pc := 12) C dX5_get_12 rfl 0 rfl ?_
      refine q_get (pc := 13) (T := TX5) (v := .ref (gad G 50)) C (by decide) (ce_49 _ _ _) (ci := 5) rfl inlX5 (j := 0) (by decide) rfl tw_49 (Or.inl rfl) dX5_get_13 ?_
      refine q_iload_n (pc := 16) C dX5_get_16 rfl 1 rfl ?_
      obtain ⟨b1, hm⟩ := oi_some hm
      refine q_iald (pc := 17) C (by decide) (ce_50 _ _ _) (ty_50 _) b1 dX5_get_17 ?_
      refine q_goto (pc := 18) (tgt := 22) C dX5_get_18 (by decide) ?_
      cases hm
      exact q_iret (pc := 22) C dX5_get_22
set_option maxRecDepth 100000 in
theorem w_Cou_lower_L43 {G : Gx} (hi : qinj (gad G)) {X : Cx} (C : QC G X cX1_lower 5 RX1 2 42 none) {Q : State → Prop} : ∀ (n : Nat) (S : St) (v2 : Int32) (v3 : Int32) (v4 : Int32) (zS : St), m_Cou_lower_L43 n S v3 v4 = some zS → QW G X 5 Q 76 [(0, .ref (gad G 42)), (2, .int v2)] [] zS → QW G X 5 Q 43 [(0, .ref (gad G 42)), (2, .int v2), (3, .int v3), (4, .int v4)] [] S := by
  intro n
  induction n with
  | zero =>
    intro S v2 v3 v4 zS hm kk
    rw [m_Cou_lower_L43] at hm
    cases hm
  | succ n ih =>
    intro S v2 v3 v4 zS hm kk
    rw [m_Cou_lower_L43] at hm
    refine q_iload (pc := 43) C dX1_lower_43 3 rfl ?_
    refine q_aload_n (pc := 45) C dX1_lower_45 rfl 0 rfl ?_
    refine q_get (pc := 46) (T := TX1) (v := .ref (gad G 1)) C (by decide) (ce_42 _ _ _) (ci := 1) rfl inlX1 (j := 1) (by decide) rfl tw_311 (Or.inr tw_312) dX1_lower_46 ?_
    refine q_iload_n (pc := 49) C dX1_lower_49 rfl 2 rfl ?_
    obtain ⟨r1, h1, hm⟩ := o1_some hm
    refine q_callV (pc := 50) (k := 1) (As := [.int v3]) (rest := [.int v4]) (T := TX2) C (c_Gr_fieldsOf hi h1) (by decide) (ce_1 _ _ _) (ci := 2) rfl tw_376 tw_279 tw_280 tw_13 tw_281 (nA := 1) (by decide +kernel) rfl (by decide) (Nat.le_of_ble_eq_true rfl) rfl dX1_lower_50 ?_
    refine q_icmp_ge (pc := 53) (tgt := 76) C dX1_lower_53 (by decide) (fun c1 => ?_) (fun c1 => ?_)
    · replace hm := hm_t c1 hm
      cases hm
      refine q_lv (lv' := [(0, .ref (gad G 42)), (2, .int v2)]) [0, 1] rfl ?_
      exact kk
    · replace hm := hm_f c1 hm
      refine q_aload_n (pc := 56) C dX1_lower_56 rfl 0 rfl ?_
      refine q_aload_n (pc := 57) C dX1_lower_57 rfl 0 rfl ?_
      refine q_get (pc := 58) (T := TX1) (v := .ref (gad G 1)) C (by decide) (ce_42 _ _ _) (ci := 1) rfl inlX1 (j := 1) (by decide) rfl tw_311 (Or.inr tw_312) dX1_lower_58 ?_
      refine q_iload_n (pc := 61) C dX1_lower_61 rfl 2 rfl ?_
      refine q_iload (pc := 62) C dX1_lower_62 3 rfl ?_
      obtain ⟨r2, h2, hm⟩ := o1_some hm
      refine q_callV (pc := 64) (k := 1) (As := [.int v3, .int v4]) (rest := [.ref (gad G 42)]) (T := TX2) C (c_Gr_nameOf hi h2) (by decide) (ce_1 _ _ _) (ci := 2) rfl tw_377 tw_283 tw_284 tw_13 tw_285 (nA := 2) (by decide +kernel) rfl (by decide) (Nat.le_of_ble_eq_true rfl) rfl dX1_lower_64 ?_
      obtain ⟨S1, h3, hm⟩ := o1_some hm
      refine q_callV (pc := 67) (k := 42) (As := [.int r2]) (rest := []) (T := TX1) C (c_Cou_lowerOnce hi h3) (by decide) (ce_42 _ _ _) (ci := 1) rfl tw_625 tw_626 tw_627 tw_22 tw_628 (nA := 1) (by decide +kernel) rfl (by decide) (Nat.le_of_ble_eq_true rfl) rfl dX1_lower_67 ?_
      refine q_iinc (pc := 70) (k := 3) (v := (v4 + (1 : Int32))) (lv' := [(4, .int (v4 + (1 : Int32))), (0, .ref (gad G 42)), (2, .int v2), (3, .int v3)]) C dX1_lower_70 rfl rfl (by decide) rfl ?_
      refine q_goto (pc := 73) (tgt := 43) C dX1_lower_73 (by decide) ?_
      refine q_lv (lv' := [(0, .ref (gad G 42)), (2, .int v2), (3, .int v3), (4, .int (v4 + (1 : Int32)))]) [1, 2, 3, 0] rfl ?_
      exact ih _ _ _ _ _ hm kk
set_option maxRecDepth 100000 in
theorem w_Cou_lower_L14 {G : Gx} (hi : qinj (gad G)) {X : Cx} (C : QC G X cX1_lower 5 RX1 2 42 none) {Q : State → Prop} : ∀ (n : Nat) (S : St) (v2 : Int32) (zS : St), m_Cou_lower_L14 n S v2 = some zS → QW G X 5 Q 82 [] [] zS → QW G X 5 Q 14 [(0, .ref (gad G 42)), (2, .int v2)] [] S := by
  intro n
  induction n with
  | zero =>
    intro S v2 zS hm kk
    rw [m_Cou_lower_L14] at hm
    cases hm
  | succ n ih =>
    intro S v2 zS hm kk
    rw [m_Cou_lower_L14] at hm
    refine q_iload_n (pc := 14) C dX1_lower_14 rfl 1 rfl ?_
    refine q_aload_n (pc := 15) C dX1_lower_15 rfl 0 rfl ?_
    refine q_get (pc := 16) (T := TX1) (v := .ref (gad G 49)) C (by decide) (ce_42 _ _ _) (ci := 1) rfl inlX1 (j := 14) (by decide) rfl tw_89 (Or.inl rfl) dX1_lower_16 ?_
    refine q_get (pc := 19) (T := TX5) (v := .int (S 49 2)) C (by decide) (ce_49 _ _ _) (ci := 5) rfl inlX5 (j := 2) (by decide) rfl tw_352 (Or.inl rfl) dX1_lower_19 ?_
    refine q_icmp_ge (pc := 22) (tgt := 82) C dX1_lower_22 (by decide) (fun c1 => ?_) (fun c1 => ?_)
    · replace hm := hm_t c1 hm
      cases hm
      refine q_lv (lv' := []) [] rfl ?_
      exact kk
    · replace hm := hm_f c1 hm
      refine q_iload_n (pc := 25) C dX1_lower_25 rfl 1 rfl ?_
      refine q_bipush (pc := 26) (v := (80 : Int32)) C dX1_lower_26 (by decide) ?_
      refine q_icmp_ge (pc := 28) (tgt := 82) C dX1_lower_28 (by decide) (fun c2 => ?_) (fun c2 => ?_)
      · replace hm := hm_t c2 hm
        cases hm
        refine q_lv (lv' := []) [] rfl ?_
        exact kk
      · replace hm := hm_f c2 hm
        refine q_aload_n (pc := 31) C dX1_lower_31 rfl 0 rfl ?_
        refine q_get (pc := 32) (T := TX1) (v := .ref (gad G 49)) C (by decide) (ce_42 _ _ _) (ci := 1) rfl inlX1 (j := 14) (by decide) rfl tw_89 (Or.inl rfl) dX1_lower_32 ?_
        refine q_iload_n (pc := 35) C dX1_lower_35 rfl 1 rfl ?_
        obtain ⟨r1, h1, hm⟩ := o1_some hm
        refine q_callV (pc := 36) (k := 49) (As := [.int v2]) (rest := []) (T := TX5) C (c_Row_get_49 hi h1) (by decide) (ce_49 _ _ _) (ci := 5) rfl tw_369 tw_271 tw_272 tw_43 tw_273 (nA := 1) (by decide +kernel) rfl (by decide) (Nat.le_of_ble_eq_true rfl) rfl dX1_lower_36 ?_
        refine q_istore_n (pc := 39) (lv' := [(3, .int r1), (0, .ref (gad G 42)), (2, .int v2)]) C dX1_lower_39 rfl (by decide) rfl ?_
        refine q_iconst (pc := 40) (v := (0 : Int32)) C dX1_lower_40 (by decide) ?_
        refine q_istore (pc := 41) (lv' := [(4, .int (0 : Int32)), (3, .int r1), (0, .ref (gad G 42)), (2, .int v2)]) C dX1_lower_41 (by decide) rfl ?_
        refine q_lv (lv' := [(0, .ref (gad G 42)), (2, .int v2), (3, .int r1), (4, .int (0 : Int32))]) [2, 3, 1, 0] rfl ?_
        obtain ⟨S1, h2, hm⟩ := o1_some hm
        refine w_Cou_lower_L43 hi C 200 _ _ _ _ _ h2 ?_
        refine q_iinc (pc := 76) (k := 1) (v := (v2 + (1 : Int32))) (lv' := [(2, .int (v2 + (1 : Int32))), (0, .ref (gad G 42))]) C dX1_lower_76 rfl rfl (by decide) rfl ?_
        refine q_goto (pc := 79) (tgt := 14) C dX1_lower_79 (by decide) ?_
        refine q_lv (lv' := [(0, .ref (gad G 42)), (2, .int (v2 + (1 : Int32)))]) [1, 0] rfl ?_
        exact ih _ _ _ hm kk
set_option maxRecDepth 100000 in
theorem c_Cou_lower {G : Gx} (hi : qinj (gad G)) {S : St} {a1 : Int32} {zS : St} (hm : m_Cou_lower S a1 = some zS) : QMet G yX1_lower cX1_lower 5 none 2 42 [.ref (gad G 42), .int a1] S none zS := by
  refine q_entry (by decide +kernel) rfl hi (Nat.le_of_ble_eq_true rfl) ?_
  intro X C
  refine q_lv (lv' := [(0, .ref (gad G 42)), (1, .int a1)]) [0, 1] rfl ?_
  unfold m_Cou_lower at hm
  refine q_aload_n (pc := 0) C dX1_lower_0 rfl 0 rfl ?_
  refine q_get (pc := 1) (T := TX1) (v := .ref (gad G 49)) C (by decide) (ce_42 _ _ _) (ci := 1) rfl inlX1 (j := 14) (by decide) rfl tw_89 (Or.inl rfl) dX1_lower_1 ?_
  obtain ⟨S1, h1, hm⟩ := o1_some hm
  refine q_callV (pc := 4) (k := 49) (As := []) (rest := []) (T := TX5) C (c_Row_empty_49 hi h1) (by decide) (ce_49 _ _ _) (ci := 5) rfl tw_360 tw_124 tw_125 tw_43 tw_126 (nA := 0) (by decide +kernel) rfl (by decide) (Nat.le_of_ble_eq_true rfl) rfl dX1_lower_4 ?_
  refine q_aload_n (pc := 7) C dX1_lower_7 rfl 0 rfl ?_
  refine q_iload_n (pc := 8) C dX1_lower_8 rfl 1 rfl ?_
  obtain ⟨S2, h2, hm⟩ := o1_some hm
  refine q_callV (pc := 9) (k := 42) (As := [.int a1]) (rest := []) (T := TX1) C (c_Cou_lowerOnce hi h2) (by decide) (ce_42 _ _ _) (ci := 1) rfl tw_625 tw_626 tw_627 tw_22 tw_628 (nA := 1) (by decide +kernel) rfl (by decide) (Nat.le_of_ble_eq_true rfl) rfl dX1_lower_9 ?_
  refine q_iconst (pc := 12) (v := (0 : Int32)) C dX1_lower_12 (by decide) ?_
  refine q_istore_n (pc := 13) (lv' := [(2, .int (0 : Int32)), (0, .ref (gad G 42)), (1, .int a1)]) C dX1_lower_13 rfl (by decide) rfl ?_
  refine q_lv (lv' := [(0, .ref (gad G 42)), (2, .int (0 : Int32))]) [1, 0] rfl ?_
  obtain ⟨S3, h3, hm⟩ := o1_some hm
  refine w_Cou_lower_L14 hi C 200 _ _ _ h3 ?_
  cases hm
  exact q_vret (pc := 82) C dX1_lower_82
set_option maxRecDepth 100000 in
theorem c_Cou_learnNaming {G : Gx} (hi : qinj (gad G)) {S : St} {a1 : Int32} {a2 : Int32} {a3 : Int32} {zS : St} (hm : m_Cou_learnNaming S a1 a2 a3 = some zS) : QMet G yX1_learnNaming cX1_learnNaming 4 none 3 66 [.ref (gad G 42), .int a1, .int a2, .int a3] S none zS := by
  refine q_entry (by decide +kernel) rfl hi (Nat.le_of_ble_eq_true rfl) ?_
  intro X C
  refine q_lv (lv' := [(0, .ref (gad G 42)), (1, .int a1), (2, .int a2), (3, .int a3)]) [0, 1, 2, 3] rfl ?_
  unfold m_Cou_learnNaming at hm
  refine q_aload_n (pc := 0) C dX1_learnNaming_0 rfl 0 rfl ?_
  refine q_iload_n (pc := 1) C dX1_learnNaming_1 rfl 3 rfl ?_
  obtain ⟨r1, h1, hm⟩ := o1_some hm
  refine q_callU (pc := 2) (k := 42) (As := [.int a3]) (rest := []) (T := TX1) (owner := "Tessera$Store") (x := ⟨"Tessera$Counting", "has", "(I)Z"⟩) C (c_St_has_42 hi h1) (by decide) (ce_42 _ _ _) (ci := 1) rfl (Or.inl rfl) tw_365 tw_366 tw_256 tw_367 tw_62 tw_257 (nA := 1) (by decide +kernel) rfl (by decide) (Nat.le_of_ble_eq_true rfl) rfl dX1_learnNaming_2 ?_
  refine q_if_eq (pc := 5) (tgt := 28) C dX1_learnNaming_5 (by decide) (fun c1 => ?_) (fun c1 => ?_)
  · replace hm := hm_t c1 hm
    refine q_aload_n (pc := 28) C dX1_learnNaming_28 rfl 0 rfl ?_
    refine q_iload_n (pc := 29) C dX1_learnNaming_29 rfl 2 rfl ?_
    obtain ⟨r2, h2, hm⟩ := o1_some hm
    refine q_callU (pc := 30) (k := 42) (As := [.int a2]) (rest := []) (T := TX1) (owner := "Tessera$Store") (x := ⟨"Tessera$Counting", "has", "(I)Z"⟩) C (c_St_has_42 hi h2) (by decide) (ce_42 _ _ _) (ci := 1) rfl (Or.inl rfl) tw_365 tw_366 tw_256 tw_367 tw_62 tw_257 (nA := 1) (by decide +kernel) rfl (by decide) (Nat.le_of_ble_eq_true rfl) rfl dX1_learnNaming_30 ?_
    refine q_if_eq (pc := 33) (tgt := 41) C dX1_learnNaming_33 (by decide) (fun c2 => ?_) (fun c2 => ?_)
    · replace hm := hm_t c2 hm
      cases hm
      exact q_vret (pc := 41) C dX1_learnNaming_41
    · replace hm := hm_f c2 hm
      refine q_aload_n (pc := 36) C dX1_learnNaming_36 rfl 0 rfl ?_
      refine q_iload_n (pc := 37) C dX1_learnNaming_37 rfl 2 rfl ?_
      obtain ⟨S1, h3, hm⟩ := o1_some hm
      refine q_callV (pc := 38) (k := 42) (As := [.int a2]) (rest := []) (T := TX1) C (c_Cou_lower hi h3) (by decide) (ce_42 _ _ _) (ci := 1) rfl tw_621 tw_622 tw_623 tw_22 tw_624 (nA := 1) (by decide +kernel) rfl (by decide) (Nat.le_of_ble_eq_true rfl) rfl dX1_learnNaming_38 ?_
      cases hm
      exact q_vret (pc := 41) C dX1_learnNaming_41
  · replace hm := hm_f c1 hm
    refine q_aload_n (pc := 8) C dX1_learnNaming_8 rfl 0 rfl ?_
    refine q_get (pc := 9) (T := TX1) (v := .ref (gad G 46)) C (by decide) (ce_42 _ _ _) (ci := 1) rfl inlX1 (j := 11) (by decide) rfl tw_85 (Or.inl rfl) dX1_learnNaming_9 ?_
    refine q_iload_n (pc := 12) C dX1_learnNaming_12 rfl 3 rfl ?_
    refine q_dup2 (pc := 13) C dX1_learnNaming_13 rfl rfl ?_
    obtain ⟨b1, hm⟩ := oi_some hm
    refine q_iald (pc := 14) C (by decide) (ce_46 _ _ _) (ty_46 _) b1 dX1_learnNaming_14 ?_
    refine q_iconst (pc := 15) (v := (1 : Int32)) C dX1_learnNaming_15 (by decide) ?_
    refine q_iadd (pc := 16) C dX1_learnNaming_16 ?_
    obtain ⟨b2, hm⟩ := oi_some hm
    refine q_iast (pc := 17) C (by decide) (fun _ => ce_46 _ _ _) (ty_46 _) b2 dX1_learnNaming_17 ?_
    refine q_aload_n (pc := 18) C dX1_learnNaming_18 rfl 0 rfl ?_
    refine q_dup (pc := 19) C dX1_learnNaming_19 rfl ?_
    refine q_get (pc := 20) (T := TX1) (v := .int (S 42 3)) C (by decide) (ce_42 _ _ _) (ci := 1) rfl inlX1 (j := 3) (by decide) rfl tw_350 (Or.inr tw_351) dX1_learnNaming_20 ?_
    refine q_iconst (pc := 23) (v := (1 : Int32)) C dX1_learnNaming_23 (by decide) ?_
    refine q_iadd (pc := 24) C dX1_learnNaming_24 ?_
    refine q_put (pc := 25) (T := TX1) (ty := .int) C tyX1 tyX1_ok nmX1 (by decide) (ce_42 _ _ _) (pe_42_3 _ _ _ _) (ci := 1) rfl inlX1 (j := 3) (by decide) (Nat.le_of_ble_eq_true rfl) tw_350 (Or.inr tw_351) rfl (by decide +kernel) rfl rfl dX1_learnNaming_25 ?_
    refine q_aload_n (pc := 28) C dX1_learnNaming_28 rfl 0 rfl ?_
    refine q_iload_n (pc := 29) C dX1_learnNaming_29 rfl 2 rfl ?_
    obtain ⟨r3, h4, hm⟩ := o1_some hm
    refine q_callU (pc := 30) (k := 42) (As := [.int a2]) (rest := []) (T := TX1) (owner := "Tessera$Store") (x := ⟨"Tessera$Counting", "has", "(I)Z"⟩) C (c_St_has_42 hi h4) (by decide) (ce_42 _ _ _) (ci := 1) rfl (Or.inl rfl) tw_365 tw_366 tw_256 tw_367 tw_62 tw_257 (nA := 1) (by decide +kernel) rfl (by decide) (Nat.le_of_ble_eq_true rfl) rfl dX1_learnNaming_30 ?_
    refine q_if_eq (pc := 33) (tgt := 41) C dX1_learnNaming_33 (by decide) (fun c3 => ?_) (fun c3 => ?_)
    · replace hm := hm_t c3 hm
      cases hm
      exact q_vret (pc := 41) C dX1_learnNaming_41
    · replace hm := hm_f c3 hm
      refine q_aload_n (pc := 36) C dX1_learnNaming_36 rfl 0 rfl ?_
      refine q_iload_n (pc := 37) C dX1_learnNaming_37 rfl 2 rfl ?_
      obtain ⟨S2, h5, hm⟩ := o1_some hm
      refine q_callV (pc := 38) (k := 42) (As := [.int a2]) (rest := []) (T := TX1) C (c_Cou_lower hi h5) (by decide) (ce_42 _ _ _) (ci := 1) rfl tw_621 tw_622 tw_623 tw_22 tw_624 (nA := 1) (by decide +kernel) rfl (by decide) (Nat.le_of_ble_eq_true rfl) rfl dX1_learnNaming_38 ?_
      cases hm
      exact q_vret (pc := 41) C dX1_learnNaming_41
set_option maxRecDepth 100000 in
theorem c_St_has_31 {G : Gx} (hi : qinj (gad G)) {S : St} {a1 : Int32} {zr : Int32} (hm : m_St_has 31 1 S a1 = some zr) : QMet G yX7_has cX7_has 2 (some .boolean) 0 0 [.ref (gad G 31), .int a1] S (some (.int zr)) S := by
  refine q_entry (by decide +kernel) rfl hi (Nat.le_of_ble_eq_true rfl) ?_
  intro X C
  refine q_lv (lv' := [(0, .ref (gad G 31)), (1, .int a1)]) [0, 1] rfl ?_
  unfold m_St_has at hm
  refine q_iload_n (pc := 0) C dX7_has_0 rfl 1 rfl ?_
  refine q_if_lt (pc := 1) (tgt := 23) C dX7_has_1 (by decide) (fun c1 => ?_) (fun c1 => ?_)
  · replace hm := hm_t c1 hm
    refine q_iconst (pc := 23) (v := (0 : Int32)) C dX7_has_23 (by decide) ?_
    cases hm
    exact q_zret (pc := 24) C (by decide) dX7_has_24
  · replace hm := hm_f c1 hm
    refine q_iload_n (pc := 4) C dX7_has_4 rfl 1 rfl ?_
    refine q_bipush (pc := 5) (v := (80 : Int32)) C dX7_has_5 (by decide) ?_
    refine q_icmp_ge (pc := 7) (tgt := 23) C dX7_has_7 (by decide) (fun c2 => ?_) (fun c2 => ?_)
    · replace hm := hm_t c2 hm
      refine q_iconst (pc := 23) (v := (0 : Int32)) C dX7_has_23 (by decide) ?_
      cases hm
      exact q_zret (pc := 24) C (by decide) dX7_has_24
    · replace hm := hm_f c2 hm
      refine q_aload_n (pc := 10) C dX7_has_10 rfl 0 rfl ?_
      refine q_get (pc := 11) (T := TX3) (v := .ref (gad G 32)) C (by decide) (ce_31 _ _ _) (ci := 3) rfl inlX3 (j := 8) (by decide) rfl tw_65 (Or.inl rfl) dX7_has_11 ?_
      refine q_iload_n (pc := 14) C dX7_has_14 rfl 1 rfl ?_
      obtain ⟨b1, hm⟩ := oi_some hm
      refine q_zald (pc := 15) C (by decide) (ce_32 _ _ _) (ty_32 _) b1 dX7_has_15 ?_
      refine q_if_eq (pc := 16) (tgt := 23) C dX7_has_16 (by decide) (fun c3 => ?_) (fun c3 => ?_)
      · replace hm := hm_t c3 hm
        refine q_iconst (pc := 23) (v := (0 : Int32)) C dX7_has_23 (by decide) ?_
        cases hm
        exact q_zret (pc := 24) C (by decide) dX7_has_24
      · replace hm := hm_f c3 hm
        refine q_iconst (pc := 19) (v := (1 : Int32)) C dX7_has_19 (by decide) ?_
        refine q_goto (pc := 20) (tgt := 24) C dX7_has_20 (by decide) ?_
        cases hm
        exact q_zret (pc := 24) C (by decide) dX7_has_24
set_option maxRecDepth 100000 in
theorem c_Mar_colourOf {G : Gx} (hi : qinj (gad G)) {S : St} {a1 : Int32} {zr : Int32} (hm : m_Mar_colourOf S a1 = some zr) : QMet G yX3_colourOf cX3_colourOf 2 (some .int) 1 21 [.ref (gad G 31), .int a1] S (some (.int zr)) S := by
  refine q_entry (by decide +kernel) rfl hi (Nat.le_of_ble_eq_true rfl) ?_
  intro X C
  refine q_lv (lv' := [(0, .ref (gad G 31)), (1, .int a1)]) [0, 1] rfl ?_
  unfold m_Mar_colourOf at hm
  refine q_aload_n (pc := 0) C dX3_colourOf_0 rfl 0 rfl ?_
  refine q_iload_n (pc := 1) C dX3_colourOf_1 rfl 1 rfl ?_
  obtain ⟨r1, h1, hm⟩ := o1_some hm
  refine q_callU (pc := 2) (k := 31) (As := [.int a1]) (rest := []) (T := TX3) (owner := "Tessera$Store") (x := ⟨"Tessera$Marking", "has", "(I)Z"⟩) C (c_St_has_31 hi h1) (by decide) (ce_31 _ _ _) (ci := 3) rfl (Or.inl rfl) tw_435 tw_436 tw_256 tw_437 tw_62 tw_257 (nA := 1) (by decide +kernel) rfl (by decide) (Nat.le_of_ble_eq_true rfl) rfl dX3_colourOf_2 ?_
  refine q_if_eq (pc := 5) (tgt := 28) C dX3_colourOf_5 (by decide) (fun c1 => ?_) (fun c1 => ?_)
  · replace hm := hm_t c1 hm
    refine q_iconst (pc := 28) (v := (-1 : Int32)) C dX3_colourOf_28 (by decide) ?_
    cases hm
    exact q_iret (pc := 29) C dX3_colourOf_29
  · replace hm := hm_f c1 hm
    refine q_aload_n (pc := 8) C dX3_colourOf_8 rfl 0 rfl ?_
    refine q_get (pc := 9) (T := TX3) (v := .ref (gad G 1)) C (by decide) (ce_31 _ _ _) (ci := 3) rfl inlX3 (j := 1) (by decide) rfl tw_421 (Or.inr tw_422) dX3_colourOf_9 ?_
    refine q_iload_n (pc := 12) C dX3_colourOf_12 rfl 1 rfl ?_
    obtain ⟨r2, h2, hm⟩ := o1_some hm
    refine q_callV (pc := 13) (k := 1) (As := [.int a1]) (rest := []) (T := TX2) C (c_Gr_isThing hi h2) (by decide) (ce_1 _ _ _) (ci := 2) rfl tw_438 tw_300 tw_301 tw_13 tw_302 (nA := 1) (by decide +kernel) rfl (by decide) (Nat.le_of_ble_eq_true rfl) rfl dX3_colourOf_13 ?_
    refine q_if_eq (pc := 16) (tgt := 28) C dX3_colourOf_16 (by decide) (fun c2 => ?_) (fun c2 => ?_)
    · replace hm := hm_t c2 hm
      refine q_iconst (pc := 28) (v := (-1 : Int32)) C dX3_colourOf_28 (by decide) ?_
      cases hm
      exact q_iret (pc := 29) C dX3_colourOf_29
    · replace hm := hm_f c2 hm
      refine q_aload_n (pc := 19) C dX3_colourOf_19 rfl 0 rfl ?_
      refine q_get (pc := 20) (T := TX3) (v := .ref (gad G 35)) C (by decide) (ce_31 _ _ _) (ci := 3) rfl inlX3 (j := 11) (by decide) rfl tw_72 (Or.inl rfl) dX3_colourOf_20 ?_
      refine q_iload_n (pc := 23) C dX3_colourOf_23 rfl 1 rfl ?_
      obtain ⟨b1, hm⟩ := oi_some hm
      refine q_iald (pc := 24) C (by decide) (ce_35 _ _ _) (ty_35 _) b1 dX3_colourOf_24 ?_
      refine q_goto (pc := 25) (tgt := 29) C dX3_colourOf_25 (by decide) ?_
      cases hm
      exact q_iret (pc := 29) C dX3_colourOf_29
set_option maxRecDepth 100000 in
theorem c_Mar_paint {G : Gx} (hi : qinj (gad G)) {S : St} {a1 : Int32} {a2 : Int32} {zS : St} (hm : m_Mar_paint S a1 a2 = some zS) : QMet G yX3_paint cX3_paint 3 none 1 21 [.ref (gad G 31), .int a1, .int a2] S none zS := by
  refine q_entry (by decide +kernel) rfl hi (Nat.le_of_ble_eq_true rfl) ?_
  intro X C
  refine q_lv (lv' := [(0, .ref (gad G 31)), (1, .int a1), (2, .int a2)]) [0, 1, 2] rfl ?_
  unfold m_Mar_paint at hm
  refine q_aload_n (pc := 0) C dX3_paint_0 rfl 0 rfl ?_
  refine q_get (pc := 1) (T := TX3) (v := .ref (gad G 1)) C (by decide) (ce_31 _ _ _) (ci := 3) rfl inlX3 (j := 1) (by decide) rfl tw_421 (Or.inr tw_422) dX3_paint_1 ?_
  refine q_iload_n (pc := 4) C dX3_paint_4 rfl 1 rfl ?_
  obtain ⟨r1, h1, hm⟩ := o1_some hm
  refine q_callV (pc := 5) (k := 1) (As := [.int a1]) (rest := []) (T := TX2) C (c_Gr_isThing hi h1) (by decide) (ce_1 _ _ _) (ci := 2) rfl tw_438 tw_300 tw_301 tw_13 tw_302 (nA := 1) (by decide +kernel) rfl (by decide) (Nat.le_of_ble_eq_true rfl) rfl dX3_paint_5 ?_
  refine q_if_eq (pc := 8) (tgt := 18) C dX3_paint_8 (by decide) (fun c1 => ?_) (fun c1 => ?_)
  · replace hm := hm_t c1 hm
    cases hm
    exact q_vret (pc := 18) C dX3_paint_18
  · replace hm := hm_f c1 hm
    refine q_aload_n (pc := 11) C dX3_paint_11 rfl 0 rfl ?_
    refine q_get (pc := 12) (T := TX3) (v := .ref (gad G 35)) C (by decide) (ce_31 _ _ _) (ci := 3) rfl inlX3 (j := 11) (by decide) rfl tw_72 (Or.inl rfl) dX3_paint_12 ?_
    refine q_iload_n (pc := 15) C dX3_paint_15 rfl 1 rfl ?_
    refine q_iload_n (pc := 16) C dX3_paint_16 rfl 2 rfl ?_
    obtain ⟨b1, hm⟩ := oi_some hm
    refine q_iast (pc := 17) C (by decide) (fun _ => ce_35 _ _ _) (ty_35 _) b1 dX3_paint_17 ?_
    cases hm
    exact q_vret (pc := 18) C dX3_paint_18
set_option maxRecDepth 100000 in
theorem c_Row_add_36 {G : Gx} (hi : qinj (gad G)) {S : St} {a1 : Int32} {zS : St} (hm : m_Row_add 36 S a1 = some zS) : QMet G yX5_add cX5_add 2 none 0 0 [.ref (gad G 36), .int a1] S none zS := by
  refine q_entry (by decide +kernel) rfl hi (Nat.le_of_ble_eq_true rfl) ?_
  intro X C
  refine q_lv (lv' := [(0, .ref (gad G 36)), (1, .int a1)]) [0, 1] rfl ?_
  unfold m_Row_add at hm
  refine q_iload_n (pc := 0) C dX5_add_0 rfl 1 rfl ?_
  refine q_if_lt (pc := 1) (tgt := 28) C dX5_add_1 (by decide) (fun c1 => ?_) (fun c1 => ?_)
  · replace hm := hm_t c1 hm
    cases hm
    exact q_vret (pc := 28) C dX5_add_28
  · replace hm := hm_f c1 hm
    refine q_iload_n (pc := 4) C dX5_add_4 rfl 1 rfl ?_
    refine q_bipush (pc := 5) (v := (80 : Int32)) C dX5_add_5 (by decide) ?_
    refine q_icmp_ge (pc := 7) (tgt := 28) C dX5_add_7 (by decide) (fun c2 => ?_) (fun c2 => ?_)
    · replace hm := hm_t c2 hm
      cases hm
      exact q_vret (pc := 28) C dX5_add_28
    · replace hm := hm_f c2 hm
      refine q_aload_n (pc := 10) C dX5_add_10 rfl 0 rfl ?_
      refine q_get (pc := 11) (T := TX5) (v := .ref (gad G 38)) C (by decide) (ce_36 _ _ _) (ci := 5) rfl inlX5 (j := 1) (by decide) rfl tw_50 (Or.inl rfl) dX5_add_11 ?_
      refine q_iload_n (pc := 14) C dX5_add_14 rfl 1 rfl ?_
      obtain ⟨b1, hm⟩ := oi_some hm
      refine q_zald (pc := 15) C (by decide) (ce_38 _ _ _) (ty_38 _) b1 dX5_add_15 ?_
      refine q_if_ne (pc := 16) (tgt := 28) C dX5_add_16 (by decide) (fun c3 => ?_) (fun c3 => ?_)
      · replace hm := hm_f c3 hm
        cases hm
        exact q_vret (pc := 28) C dX5_add_28
      · replace hm := hm_t c3 hm
        refine q_aload_n (pc := 19) C dX5_add_19 rfl 0 rfl ?_
        refine q_get (pc := 20) (T := TX5) (v := .int (S 36 2)) C (by decide) (ce_36 _ _ _) (ci := 5) rfl inlX5 (j := 2) (by decide) rfl tw_127 (Or.inl rfl) dX5_add_20 ?_
        refine q_bipush (pc := 23) (v := (80 : Int32)) C dX5_add_23 (by decide) ?_
        refine q_icmp_lt (pc := 25) (tgt := 29) C dX5_add_25 (by decide) (fun c4 => ?_) (fun c4 => ?_)
        · replace hm := hm_t c4 hm
          refine q_aload_n (pc := 29) C dX5_add_29 rfl 0 rfl ?_
          refine q_get (pc := 30) (T := TX5) (v := .ref (gad G 38)) C (by decide) (ce_36 _ _ _) (ci := 5) rfl inlX5 (j := 1) (by decide) rfl tw_50 (Or.inl rfl) dX5_add_30 ?_
          refine q_iload_n (pc := 33) C dX5_add_33 rfl 1 rfl ?_
          refine q_iconst (pc := 34) (v := (1 : Int32)) C dX5_add_34 (by decide) ?_
          obtain ⟨b2, hm⟩ := oi_some hm
          refine q_zast1 (pc := 35) C (by decide) (fun _ => ce_38 _ _ _) (ty_38 _) b2 dX5_add_35 ?_
          refine q_aload_n (pc := 36) C dX5_add_36 rfl 0 rfl ?_
          refine q_get (pc := 37) (T := TX5) (v := .ref (gad G 37)) C (by decide) (ce_36 _ _ _) (ci := 5) rfl inlX5 (j := 0) (by decide) rfl tw_49 (Or.inl rfl) dX5_add_37 ?_
          refine q_aload_n (pc := 40) C dX5_add_40 rfl 0 rfl ?_
          refine q_get (pc := 41) (T := TX5) (v := .int (S 36 2)) C (by decide) (ce_36 _ _ _) (ci := 5) rfl inlX5 (j := 2) (by decide) rfl tw_127 (Or.inl rfl) dX5_add_41 ?_
          refine q_iload_n (pc := 44) C dX5_add_44 rfl 1 rfl ?_
          obtain ⟨b3, hm⟩ := oi_some hm
          refine q_iast (pc := 45) C (by decide) (fun _ => ce_37 _ _ _) (ty_37 _) b3 dX5_add_45 ?_
          refine q_aload_n (pc := 46) C dX5_add_46 rfl 0 rfl ?_
          refine q_dup (pc := 47) C dX5_add_47 rfl ?_
          refine q_get (pc := 48) (T := TX5) (v := .int (S 36 2)) C (by decide) (ce_36 _ _ _) (ci := 5) rfl inlX5 (j := 2) (by decide) rfl tw_127 (Or.inl rfl) dX5_add_48 ?_
          refine q_iconst (pc := 51) (v := (1 : Int32)) C dX5_add_51 (by decide) ?_
          refine q_iadd (pc := 52) C dX5_add_52 ?_
          refine q_put (pc := 53) (T := TX5) (ty := .int) C tyX5 tyX5_ok nmX5 (by decide) (ce_36 _ _ _) (pe_36_2 _ _ _ _) (ci := 5) rfl inlX5 (j := 2) (by decide) (Nat.le_of_ble_eq_true rfl) tw_127 (Or.inl rfl) rfl (by decide +kernel) rfl rfl dX5_add_53 ?_
          cases hm
          exact q_vret (pc := 56) C dX5_add_56
        · replace hm := hm_f c4 hm
          cases hm
          exact q_vret (pc := 28) C dX5_add_28
set_option maxRecDepth 100000 in
theorem c_Mar_becomeGrey {G : Gx} (hi : qinj (gad G)) {S : St} {a1 : Int32} {zS : St} (hm : m_Mar_becomeGrey S a1 = some zS) : QMet G yX3_becomeGrey cX3_becomeGrey 2 none 2 43 [.ref (gad G 31), .int a1] S none zS := by
  refine q_entry (by decide +kernel) rfl hi (Nat.le_of_ble_eq_true rfl) ?_
  intro X C
  refine q_lv (lv' := [(0, .ref (gad G 31)), (1, .int a1)]) [0, 1] rfl ?_
  unfold m_Mar_becomeGrey at hm
  refine q_aload_n (pc := 0) C dX3_becomeGrey_0 rfl 0 rfl ?_
  refine q_iload_n (pc := 1) C dX3_becomeGrey_1 rfl 1 rfl ?_
  obtain ⟨r1, h1, hm⟩ := o1_some hm
  refine q_callV (pc := 2) (k := 31) (As := [.int a1]) (rest := []) (T := TX3) C (c_Mar_colourOf hi h1) (by decide) (ce_31 _ _ _) (ci := 3) rfl tw_431 tw_432 tw_433 tw_19 tw_434 (nA := 1) (by decide +kernel) rfl (by decide) (Nat.le_of_ble_eq_true rfl) rfl dX3_becomeGrey_2 ?_
  refine q_if_ne (pc := 5) (tgt := 22) C dX3_becomeGrey_5 (by decide) (fun c1 => ?_) (fun c1 => ?_)
  · replace hm := hm_f c1 hm
    cases hm
    exact q_vret (pc := 22) C dX3_becomeGrey_22
  · replace hm := hm_t c1 hm
    refine q_aload_n (pc := 8) C dX3_becomeGrey_8 rfl 0 rfl ?_
    refine q_iload_n (pc := 9) C dX3_becomeGrey_9 rfl 1 rfl ?_
    refine q_iconst (pc := 10) (v := (1 : Int32)) C dX3_becomeGrey_10 (by decide) ?_
    obtain ⟨S1, h2, hm⟩ := o1_some hm
    refine q_callV (pc := 11) (k := 31) (As := [.int a1, .int (1 : Int32)]) (rest := []) (T := TX3) C (c_Mar_paint hi h2) (by decide) (ce_31 _ _ _) (ci := 3) rfl tw_439 tw_440 tw_441 tw_19 tw_442 (nA := 2) (by decide +kernel) rfl (by decide) (Nat.le_of_ble_eq_true rfl) rfl dX3_becomeGrey_11 ?_
    refine q_aload_n (pc := 14) C dX3_becomeGrey_14 rfl 0 rfl ?_
    refine q_get (pc := 15) (T := TX3) (v := .ref (gad G 36)) C (by decide) (ce_31 _ _ _) (ci := 3) rfl inlX3 (j := 12) (by decide) rfl tw_74 (Or.inl rfl) dX3_becomeGrey_15 ?_
    refine q_iload_n (pc := 18) C dX3_becomeGrey_18 rfl 1 rfl ?_
    obtain ⟨S2, h3, hm⟩ := o1_some hm
    refine q_callV (pc := 19) (k := 36) (As := [.int a1]) (rest := []) (T := TX5) C (c_Row_add_36 hi h3) (by decide) (ce_36 _ _ _) (ci := 5) rfl tw_443 tw_267 tw_268 tw_43 tw_269 (nA := 1) (by decide +kernel) rfl (by decide) (Nat.le_of_ble_eq_true rfl) rfl dX3_becomeGrey_19 ?_
    cases hm
    exact q_vret (pc := 22) C dX3_becomeGrey_22
set_option maxRecDepth 100000 in
theorem c_Mar_learnNaming {G : Gx} (hi : qinj (gad G)) {S : St} {a1 : Int32} {a2 : Int32} {a3 : Int32} {zS : St} (hm : m_Mar_learnNaming S a1 a2 a3 = some zS) : QMet G yX3_learnNaming cX3_learnNaming 4 none 3 64 [.ref (gad G 31), .int a1, .int a2, .int a3] S none zS := by
  refine q_entry (by decide +kernel) rfl hi (Nat.le_of_ble_eq_true rfl) ?_
  intro X C
  refine q_lv (lv' := [(0, .ref (gad G 31)), (1, .int a1), (2, .int a2), (3, .int a3)]) [0, 1, 2, 3] rfl ?_
  unfold m_Mar_learnNaming at hm
  refine q_aload_n (pc := 0) C dX3_learnNaming_0 rfl 0 rfl ?_
  refine q_get (pc := 1) (T := TX3) (v := .int (S 31 10)) C (by decide) (ce_31 _ _ _) (ci := 3) rfl inlX3 (j := 10) (by decide) rfl tw_159 (Or.inl rfl) dX3_learnNaming_1 ?_
  refine q_if_eq (pc := 4) (tgt := 26) C dX3_learnNaming_4 (by decide) (fun c1 => ?_) (fun c1 => ?_)
  · replace hm := hm_t c1 hm
    cases hm
    exact q_vret (pc := 26) C dX3_learnNaming_26
  · replace hm := hm_f c1 hm
    refine q_iload_n (pc := 7) C dX3_learnNaming_7 rfl 1 rfl ?_
    refine q_iconst (pc := 8) (v := (-1 : Int32)) C dX3_learnNaming_8 (by decide) ?_
    refine q_icmp_eq (pc := 9) (tgt := 21) C dX3_learnNaming_9 (by decide) (fun c2 => ?_) (fun c2 => ?_)
    · replace hm := hm_t c2 hm
      refine q_aload_n (pc := 21) C dX3_learnNaming_21 rfl 0 rfl ?_
      refine q_iload_n (pc := 22) C dX3_learnNaming_22 rfl 3 rfl ?_
      obtain ⟨S1, h1, hm⟩ := o1_some hm
      refine q_callV (pc := 23) (k := 31) (As := [.int a3]) (rest := []) (T := TX3) C (c_Mar_becomeGrey hi h1) (by decide) (ce_31 _ _ _) (ci := 3) rfl tw_427 tw_428 tw_429 tw_19 tw_430 (nA := 1) (by decide +kernel) rfl (by decide) (Nat.le_of_ble_eq_true rfl) rfl dX3_learnNaming_23 ?_
      cases hm
      exact q_vret (pc := 26) C dX3_learnNaming_26
    · replace hm := hm_f c2 hm
      refine q_aload_n (pc := 12) C dX3_learnNaming_12 rfl 0 rfl ?_
      refine q_iload_n (pc := 13) C dX3_learnNaming_13 rfl 1 rfl ?_
      obtain ⟨r1, h2, hm⟩ := o1_some hm
      refine q_callV (pc := 14) (k := 31) (As := [.int a1]) (rest := []) (T := TX3) C (c_Mar_colourOf hi h2) (by decide) (ce_31 _ _ _) (ci := 3) rfl tw_431 tw_432 tw_433 tw_19 tw_434 (nA := 1) (by decide +kernel) rfl (by decide) (Nat.le_of_ble_eq_true rfl) rfl dX3_learnNaming_14 ?_
      refine q_iconst (pc := 17) (v := (2 : Int32)) C dX3_learnNaming_17 (by decide) ?_
      refine q_icmp_ne (pc := 18) (tgt := 26) C dX3_learnNaming_18 (by decide) (fun c3 => ?_) (fun c3 => ?_)
      · replace hm := hm_f c3 hm
        cases hm
        exact q_vret (pc := 26) C dX3_learnNaming_26
      · replace hm := hm_t c3 hm
        refine q_aload_n (pc := 21) C dX3_learnNaming_21 rfl 0 rfl ?_
        refine q_iload_n (pc := 22) C dX3_learnNaming_22 rfl 3 rfl ?_
        obtain ⟨S2, h3, hm⟩ := o1_some hm
        refine q_callV (pc := 23) (k := 31) (As := [.int a3]) (rest := []) (T := TX3) C (c_Mar_becomeGrey hi h3) (by decide) (ce_31 _ _ _) (ci := 3) rfl tw_427 tw_428 tw_429 tw_19 tw_430 (nA := 1) (by decide +kernel) rfl (by decide) (Nat.le_of_ble_eq_true rfl) rfl dX3_learnNaming_23 ?_
        cases hm
        exact q_vret (pc := 26) C dX3_learnNaming_26
set_option maxRecDepth 100000 in
theorem c_St_learnNaming_Nur_18 {G : Gx} (hi : qinj (gad G)) {S : St} {a1 : Int32} {a2 : Int32} {a3 : Int32} {zu : Unit} (hm : m_St_learnNaming_Nur S a1 a2 a3 = some zu) : QMet G yX7_learnNaming cX7_learnNaming 4 none 0 0 [.ref (gad G 18), .int a1, .int a2, .int a3] S none S := by
  refine q_entry (by decide +kernel) rfl hi (Nat.le_of_ble_eq_true rfl) ?_
  intro X C
  refine q_lv (lv' := [(0, .ref (gad G 18)), (1, .int a1), (2, .int a2), (3, .int a3)]) [0, 1, 2, 3] rfl ?_
  unfold m_St_learnNaming_Nur at hm
  cases hm
  exact q_vret (pc := 0) C dX7_learnNaming_0
end
