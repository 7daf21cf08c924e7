/-- as QW, over any world: the cells w, the arrays' classes ty, kc cells and ks slots made so far -/
def QV (G : Gx) (X : Cx) (nL : Nat) (Q : State → Prop) (pc : Nat) (lv : List (Nat × Value)) (st : List Value) (w : va_W) (ty : List (ClassId × FieldType)) (kc ks : Nat) : Prop :=
  ∀ (H : Heap) (locs : List Loc) (ls : Array Slot), va_K (gD G) vwCl ty (xs X) → va_P (gD G) vwCl w H → va_D (xA X) w → va_S (xA X) (xs X).heap H locs → lv_has ls nL lv →
    W (xp X) (gl G) (xe X) (xR X) (xs X) (xm X) (xargs X) (xbelow X) (xmeth X) (xc X) H locs kc ks Q (F0 (xm X) pc ls st)
def VC (X : Cx) (cc : ByteArray) (nL : Nat) (own : String) (fr lo cl sl : Nat) : Prop :=
  (xp X).tables.exec = Jvm.exec ∧ (xc X).code = cc ∧ (xc X).maxLocals = nL ∧ (∀ w ∈ wsL_law0, w.before (xargs X) (xs X) = true) ∧ (xs X).vm.findClass own = some (xm X).cls ∧
  (∀ x ∈ NWs, va_Nw (.declares x) (xs X)) ∧ (∀ q, (xs X).heap.size ≤ q → xA X q) ∧ (xmeth X).locks = false ∧ xR X = { frames := fr, cells := cl, slots := sl, locals := lo }
section VL
variable {G : Gx} {X : Cx} {cc : ByteArray} {nL : Nat} {own : String} {fr lo cl sl : Nat} {Q : State → Prop} {pc : Nat} {lv : List (Nat × Value)} {st : List Value} {w : va_W} {ty : List (ClassId × FieldType)} {kc ks : Nat}
theorem v_iconst (C : VC X cc nL own fr lo cl sl) {n : Int} {v : Int32} (d : decode cc pc = .ok (.iconst n, 1)) (hv : Int32.ofInt n = v) (kk : QV G X nL Q (pc + 1) lv (.int v :: st) w ty kc ks) : QV G X nL Q pc lv (st) w ty kc ks :=
  fun H locs ls hK hP hD hS hl => lv_iconst C.1 C.2.1 d hv (kk H locs ls hK hP hD hS hl)
theorem v_bipush (C : VC X cc nL own fr lo cl sl) {n : Int} {v : Int32} (d : decode cc pc = .ok (.bipush n, 2)) (hv : (Int8.ofInt n).toInt32 = v) (kk : QV G X nL Q (pc + 2) lv (.int v :: st) w ty kc ks) : QV G X nL Q pc lv (st) w ty kc ks :=
  fun H locs ls hK hP hD hS hl => lv_bipush C.1 C.2.1 d hv (kk H locs ls hK hP hD hS hl)
theorem v_sipush (C : VC X cc nL own fr lo cl sl) {n : Int} {v : Int32} (d : decode cc pc = .ok (.sipush n, 3)) (hv : (Int16.ofInt n).toInt32 = v) (kk : QV G X nL Q (pc + 3) lv (.int v :: st) w ty kc ks) : QV G X nL Q pc lv (st) w ty kc ks :=
  fun H locs ls hK hP hD hS hl => lv_sipush C.1 C.2.1 d hv (kk H locs ls hK hP hD hS hl)
theorem v_iload (C : VC X cc nL own fr lo cl sl) {i : Nat} {x : Int32} (d : decode cc pc = .ok (.iload i, 2)) (j : Nat) (hk : lv[j]? = some (i, .int x)) (kk : QV G X nL Q (pc + 2) lv (.int x :: st) w ty kc ks) : QV G X nL Q pc lv (st) w ty kc ks :=
  fun H locs ls hK hP hD hS hl => lv_iload C.1 C.2.1 d (lv_at hl j hk) (kk H locs ls hK hP hD hS hl)
theorem v_iload_n (C : VC X cc nL own fr lo cl sl) {k : Fin 4} {i : Nat} {x : Int32} (d : decode cc pc = .ok (.iload_n k, 1)) (hi : (k : Nat) = i) (j : Nat) (hk : lv[j]? = some (i, .int x)) (kk : QV G X nL Q (pc + 1) lv (.int x :: st) w ty kc ks) : QV G X nL Q pc lv (st) w ty kc ks :=
  fun H locs ls hK hP hD hS hl => lv_iload_n C.1 C.2.1 d hi (lv_at hl j hk) (kk H locs ls hK hP hD hS hl)
theorem v_aload (C : VC X cc nL own fr lo cl sl) {i : Nat} {x : Nat} (d : decode cc pc = .ok (.aload i, 2)) (j : Nat) (hk : lv[j]? = some (i, .ref x)) (kk : QV G X nL Q (pc + 2) lv (.ref x :: st) w ty kc ks) : QV G X nL Q pc lv (st) w ty kc ks :=
  fun H locs ls hK hP hD hS hl => lv_aload C.1 C.2.1 d (lv_at hl j hk) (kk H locs ls hK hP hD hS hl)
theorem v_aload_n (C : VC X cc nL own fr lo cl sl) {k : Fin 4} {i : Nat} {x : Nat} (d : decode cc pc = .ok (.aload_n k, 1)) (hi : (k : Nat) = i) (j : Nat) (hk : lv[j]? = some (i, .ref x)) (kk : QV G X nL Q (pc + 1) lv (.ref x :: st) w ty kc ks) : QV G X nL Q pc lv (st) w ty kc ks :=
  fun H locs ls hK hP hD hS hl => lv_aload_n C.1 C.2.1 d hi (lv_at hl j hk) (kk H locs ls hK hP hD hS hl)
theorem v_lload (C : VC X cc nL own fr lo cl sl) {i : Nat} {x : Int64} (d : decode cc pc = .ok (.lload i, 2)) (j : Nat) (hk : lv[j]? = some (i, .long x)) (kk : QV G X nL Q (pc + 2) lv (.long x :: st) w ty kc ks) : QV G X nL Q pc lv (st) w ty kc ks :=
  fun H locs ls hK hP hD hS hl => lv_lload C.1 C.2.1 d (lv_at hl j hk) (kk H locs ls hK hP hD hS hl)
theorem v_lload_n (C : VC X cc nL own fr lo cl sl) {k : Fin 4} {i : Nat} {x : Int64} (d : decode cc pc = .ok (.lload_n k, 1)) (hi : (k : Nat) = i) (j : Nat) (hk : lv[j]? = some (i, .long x)) (kk : QV G X nL Q (pc + 1) lv (.long x :: st) w ty kc ks) : QV G X nL Q pc lv (st) w ty kc ks :=
  fun H locs ls hK hP hD hS hl => lv_lload_n C.1 C.2.1 d hi (lv_at hl j hk) (kk H locs ls hK hP hD hS hl)
theorem v_istore (C : VC X cc nL own fr lo cl sl) {i : Nat} {x : Int32} {lv' : List (Nat × Value)} (d : decode cc pc = .ok (.istore i, 2)) (hn : i < nL) (he : (i, Value.int x) :: lv.filter (fun q => !(q.1 == i) && !(q.1 + 1 == i && q.2.category == 2)) = lv') (kk : QV G X nL Q (pc + 2) lv' st w ty kc ks) : QV G X nL Q pc lv (.int x :: st) w ty kc ks :=
  fun H locs ls hK hP hD hS hl => lv_istore C.1 C.2.1 d hl hn he (fun ls hl => kk H locs ls hK hP hD hS hl)
theorem v_istore_n (C : VC X cc nL own fr lo cl sl) {k : Fin 4} {i : Nat} {x : Int32} {lv' : List (Nat × Value)} (d : decode cc pc = .ok (.istore_n k, 1)) (hi : (k : Nat) = i) (hn : i < nL) (he : (i, Value.int x) :: lv.filter (fun q => !(q.1 == i) && !(q.1 + 1 == i && q.2.category == 2)) = lv') (kk : QV G X nL Q (pc + 1) lv' st w ty kc ks) : QV G X nL Q pc lv (.int x :: st) w ty kc ks :=
  fun H locs ls hK hP hD hS hl => lv_istore_n C.1 C.2.1 d hi hl hn he (fun ls hl => kk H locs ls hK hP hD hS hl)
theorem v_astore (C : VC X cc nL own fr lo cl sl) {i : Nat} {x : Nat} {lv' : List (Nat × Value)} (d : decode cc pc = .ok (.astore i, 2)) (hn : i < nL) (he : (i, Value.ref x) :: lv.filter (fun q => !(q.1 == i) && !(q.1 + 1 == i && q.2.category == 2)) = lv') (kk : QV G X nL Q (pc + 2) lv' st w ty kc ks) : QV G X nL Q pc lv (.ref x :: st) w ty kc ks :=
  fun H locs ls hK hP hD hS hl => lv_astore C.1 C.2.1 d hl hn he (fun ls hl => kk H locs ls hK hP hD hS hl)
theorem v_astore_n (C : VC X cc nL own fr lo cl sl) {k : Fin 4} {i : Nat} {x : Nat} {lv' : List (Nat × Value)} (d : decode cc pc = .ok (.astore_n k, 1)) (hi : (k : Nat) = i) (hn : i < nL) (he : (i, Value.ref x) :: lv.filter (fun q => !(q.1 == i) && !(q.1 + 1 == i && q.2.category == 2)) = lv') (kk : QV G X nL Q (pc + 1) lv' st w ty kc ks) : QV G X nL Q pc lv (.ref x :: st) w ty kc ks :=
  fun H locs ls hK hP hD hS hl => lv_astore_n C.1 C.2.1 d hi hl hn he (fun ls hl => kk H locs ls hK hP hD hS hl)
theorem v_lstore (C : VC X cc nL own fr lo cl sl) {i : Nat} {x : Int64} {lv' : List (Nat × Value)} (d : decode cc pc = .ok (.lstore i, 2)) (hn : i + 1 < nL) (he : (i, Value.long x) :: lv.filter (fun q => !(q.1 == i) && (!(q.1 == i + 1) && !(q.1 + 1 == i && q.2.category == 2))) = lv') (kk : QV G X nL Q (pc + 2) lv' st w ty kc ks) : QV G X nL Q pc lv (.long x :: st) w ty kc ks :=
  fun H locs ls hK hP hD hS hl => lv_lstore C.1 C.2.1 d hl hn he (fun ls hl => kk H locs ls hK hP hD hS hl)
theorem v_lstore_n (C : VC X cc nL own fr lo cl sl) {k : Fin 4} {i : Nat} {x : Int64} {lv' : List (Nat × Value)} (d : decode cc pc = .ok (.lstore_n k, 1)) (hi : (k : Nat) = i) (hn : i + 1 < nL) (he : (i, Value.long x) :: lv.filter (fun q => !(q.1 == i) && (!(q.1 == i + 1) && !(q.1 + 1 == i && q.2.category == 2))) = lv') (kk : QV G X nL Q (pc + 1) lv' st w ty kc ks) : QV G X nL Q pc lv (.long x :: st) w ty kc ks :=
  fun H locs ls hK hP hD hS hl => lv_lstore_n C.1 C.2.1 d hi hl hn he (fun ls hl => kk H locs ls hK hP hD hS hl)
theorem v_iinc (C : VC X cc nL own fr lo cl sl) {i k : Nat} {n : Int} {x v : Int32} {lv' : List (Nat × Value)} (d : decode cc pc = .ok (.iinc i n, 3)) (hk : lv[k]? = some (i, .int x)) (hv : x + Int32.ofInt n = v) (hn : i < nL) (he : (i, Value.int v) :: lv.filter (fun q => !(q.1 == i) && !(q.1 + 1 == i && q.2.category == 2)) = lv') (kk : QV G X nL Q (pc + 3) lv' st w ty kc ks) : QV G X nL Q pc lv st w ty kc ks :=
  fun H locs ls hK hP hD hS hl => lv_iinc C.1 C.2.1 d hl hk hv hn he (fun ls hl => kk H locs ls hK hP hD hS hl)
theorem v_iadd (C : VC X cc nL own fr lo cl sl) {x y : Int32} (d : decode cc pc = .ok (.iadd, 1)) (kk : QV G X nL Q (pc + 1) lv (.int (x + y) :: st) w ty kc ks) : QV G X nL Q pc lv (.int y :: .int x :: st) w ty kc ks :=
  fun H locs ls hK hP hD hS hl => lv_iadd C.1 C.2.1 d (kk H locs ls hK hP hD hS hl)
theorem v_isub (C : VC X cc nL own fr lo cl sl) {x y : Int32} (d : decode cc pc = .ok (.isub, 1)) (kk : QV G X nL Q (pc + 1) lv (.int (x - y) :: st) w ty kc ks) : QV G X nL Q pc lv (.int y :: .int x :: st) w ty kc ks :=
  fun H locs ls hK hP hD hS hl => lv_isub C.1 C.2.1 d (kk H locs ls hK hP hD hS hl)
theorem v_imul (C : VC X cc nL own fr lo cl sl) {x y : Int32} (d : decode cc pc = .ok (.imul, 1)) (kk : QV G X nL Q (pc + 1) lv (.int (x * y) :: st) w ty kc ks) : QV G X nL Q pc lv (.int y :: .int x :: st) w ty kc ks :=
  fun H locs ls hK hP hD hS hl => lv_imul C.1 C.2.1 d (kk H locs ls hK hP hD hS hl)
theorem v_iand (C : VC X cc nL own fr lo cl sl) {x y : Int32} (d : decode cc pc = .ok (.iand, 1)) (kk : QV G X nL Q (pc + 1) lv (.int (x &&& y) :: st) w ty kc ks) : QV G X nL Q pc lv (.int y :: .int x :: st) w ty kc ks :=
  fun H locs ls hK hP hD hS hl => lv_iand C.1 C.2.1 d (kk H locs ls hK hP hD hS hl)
theorem v_idiv (C : VC X cc nL own fr lo cl sl) {x y : Int32} (d : decode cc pc = .ok (.idiv, 1)) (hne : ¬ y = 0) (kk : QV G X nL Q (pc + 1) lv (.int (x / y) :: st) w ty kc ks) : QV G X nL Q pc lv (.int y :: .int x :: st) w ty kc ks :=
  fun H locs ls hK hP hD hS hl => lv_idiv C.1 C.2.1 d hne (kk H locs ls hK hP hD hS hl)
theorem v_irem (C : VC X cc nL own fr lo cl sl) {x y : Int32} (d : decode cc pc = .ok (.irem, 1)) (hne : ¬ y = 0) (kk : QV G X nL Q (pc + 1) lv (.int (x - x / y * y) :: st) w ty kc ks) : QV G X nL Q pc lv (.int y :: .int x :: st) w ty kc ks :=
  fun H locs ls hK hP hD hS hl => lv_irem C.1 C.2.1 d hne (kk H locs ls hK hP hD hS hl)
theorem v_ishr (C : VC X cc nL own fr lo cl sl) {x y : Int32} (d : decode cc pc = .ok (.ishr, 1)) (kk : QV G X nL Q (pc + 1) lv (.int (x >>> (y &&& 31)) :: st) w ty kc ks) : QV G X nL Q pc lv (.int y :: .int x :: st) w ty kc ks :=
  fun H locs ls hK hP hD hS hl => lv_ishr C.1 C.2.1 d (kk H locs ls hK hP hD hS hl)
theorem v_lcmp (C : VC X cc nL own fr lo cl sl) {x y : Int64} (d : decode cc pc = .ok (.lcmp, 1)) (kk : QV G X nL Q (pc + 1) lv (.int (lg_cmp x y) :: st) w ty kc ks) : QV G X nL Q pc lv (.long y :: .long x :: st) w ty kc ks :=
  fun H locs ls hK hP hD hS hl => W.lcmp C.1 C.2.1 d (kk H locs ls hK hP hD hS hl)
theorem v_ladd (C : VC X cc nL own fr lo cl sl) {x y : Int64} (d : decode cc pc = .ok (.ladd, 1)) (kk : QV G X nL Q (pc + 1) lv (.long (x + y) :: st) w ty kc ks) : QV G X nL Q pc lv (.long y :: .long x :: st) w ty kc ks :=
  fun H locs ls hK hP hD hS hl => lv_ladd C.1 C.2.1 d (kk H locs ls hK hP hD hS hl)
theorem v_lmul (C : VC X cc nL own fr lo cl sl) {x y : Int64} (d : decode cc pc = .ok (.lmul, 1)) (kk : QV G X nL Q (pc + 1) lv (.long (x * y) :: st) w ty kc ks) : QV G X nL Q pc lv (.long y :: .long x :: st) w ty kc ks :=
  fun H locs ls hK hP hD hS hl => lv_lmul C.1 C.2.1 d (kk H locs ls hK hP hD hS hl)
theorem v_i2l (C : VC X cc nL own fr lo cl sl) {x : Int32} (d : decode cc pc = .ok (.i2l, 1)) (kk : QV G X nL Q (pc + 1) lv (.long x.toInt64 :: st) w ty kc ks) : QV G X nL Q pc lv (.int x :: st) w ty kc ks :=
  fun H locs ls hK hP hD hS hl => lv_i2l C.1 C.2.1 d rfl (kk H locs ls hK hP hD hS hl)
theorem v_ldc (C : VC X cc nL own fr lo cl sl) {index : Nat} {v : Int32} (hw : Jvm.Cond.constant own index v ∈ wsL_law0) (d : decode cc pc = .ok (.ldc index, 2)) (kk : QV G X nL Q (pc + 2) lv (.int v :: st) w ty kc ks) : QV G X nL Q pc lv st w ty kc ks :=
  fun H locs ls hK hP hD hS hl => lv_ldc C.1 C.2.1 C.2.2.2.2.1 (C.2.2.2.1 _ hw) d (kk H locs ls hK hP hD hS hl)
theorem v_ldc2 (C : VC X cc nL own fr lo cl sl) {index : Nat} {v : Int64} (hw : Jvm.Cond.constantLong own index v ∈ wsL_law0) (d : decode cc pc = .ok (.ldc2_w index, 3)) (kk : QV G X nL Q (pc + 3) lv (.long v :: st) w ty kc ks) : QV G X nL Q pc lv st w ty kc ks :=
  fun H locs ls hK hP hD hS hl => lv_ldc2 C.1 C.2.1 C.2.2.2.2.1 (C.2.2.2.1 _ hw) d (kk H locs ls hK hP hD hS hl)
theorem v_dup (C : VC X cc nL own fr lo cl sl) {va : Value} (d : decode cc pc = .ok (.dup, 1)) (hva : va.category = 1) (kk : QV G X nL Q (pc + 1) lv (va :: va :: st) w ty kc ks) : QV G X nL Q pc lv (va :: st) w ty kc ks :=
  fun H locs ls hK hP hD hS hl => lv_dup C.1 C.2.1 d hva (kk H locs ls hK hP hD hS hl)
theorem v_dup2 (C : VC X cc nL own fr lo cl sl) {va vb : Value} (d : decode cc pc = .ok (.dup2, 1)) (hva : va.category = 1) (hvb : vb.category = 1) (kk : QV G X nL Q (pc + 1) lv (va :: vb :: va :: vb :: st) w ty kc ks) : QV G X nL Q pc lv (va :: vb :: st) w ty kc ks :=
  fun H locs ls hK hP hD hS hl => lv_dup2_11 C.1 C.2.1 d hva hvb (kk H locs ls hK hP hD hS hl)
theorem v_pop (C : VC X cc nL own fr lo cl sl) {va : Value} (d : decode cc pc = .ok (.pop, 1)) (hva : va.category = 1) (kk : QV G X nL Q (pc + 1) lv st w ty kc ks) : QV G X nL Q pc lv (va :: st) w ty kc ks :=
  fun H locs ls hK hP hD hS hl => lv_pop C.1 C.2.1 d hva (kk H locs ls hK hP hD hS hl)
theorem v_goto (C : VC X cc nL own fr lo cl sl) {off : Int} {tgt : Nat} (d : decode cc pc = .ok (.goto off, 3)) (ht : (pc : Int) + off = (tgt : Int)) (kk : QV G X nL Q tgt lv st w ty kc ks) : QV G X nL Q pc lv st w ty kc ks :=
  fun H locs ls hK hP hD hS hl => lv_goto C.1 C.2.1 d ht (kk H locs ls hK hP hD hS hl)
theorem v_if_eq (C : VC X cc nL own fr lo cl sl) {x : Int32} {off : Int} {tgt : Nat} (d : decode cc pc = .ok (.ifCond .eq off, 3)) (ht : (pc : Int) + off = (tgt : Int)) (kt : x = 0 → QV G X nL Q tgt lv st w ty kc ks) (kf : ¬ x = 0 → QV G X nL Q (pc + 3) lv st w ty kc ks) : QV G X nL Q pc lv (.int x :: st) w ty kc ks :=
  fun H locs ls hK hP hD hS hl => lv_if_eq C.1 C.2.1 d ht (fun c => kt c H locs ls hK hP hD hS hl) (fun c => kf c H locs ls hK hP hD hS hl)
theorem v_if_ne (C : VC X cc nL own fr lo cl sl) {x : Int32} {off : Int} {tgt : Nat} (d : decode cc pc = .ok (.ifCond .ne off, 3)) (ht : (pc : Int) + off = (tgt : Int)) (kt : ¬ x = 0 → QV G X nL Q tgt lv st w ty kc ks) (kf : x = 0 → QV G X nL Q (pc + 3) lv st w ty kc ks) : QV G X nL Q pc lv (.int x :: st) w ty kc ks :=
  fun H locs ls hK hP hD hS hl => lv_if_ne C.1 C.2.1 d ht (fun c => kt c H locs ls hK hP hD hS hl) (fun c => kf c H locs ls hK hP hD hS hl)
theorem v_if_lt (C : VC X cc nL own fr lo cl sl) {x : Int32} {off : Int} {tgt : Nat} (d : decode cc pc = .ok (.ifCond .lt off, 3)) (ht : (pc : Int) + off = (tgt : Int)) (kt : x < 0 → QV G X nL Q tgt lv st w ty kc ks) (kf : ¬ x < 0 → QV G X nL Q (pc + 3) lv st w ty kc ks) : QV G X nL Q pc lv (.int x :: st) w ty kc ks :=
  fun H locs ls hK hP hD hS hl => lv_if_lt C.1 C.2.1 d ht (fun c => kt c H locs ls hK hP hD hS hl) (fun c => kf c H locs ls hK hP hD hS hl)
theorem v_if_ge (C : VC X cc nL own fr lo cl sl) {x : Int32} {off : Int} {tgt : Nat} (d : decode cc pc = .ok (.ifCond .ge off, 3)) (ht : (pc : Int) + off = (tgt : Int)) (kt : 0 ≤ x → QV G X nL Q tgt lv st w ty kc ks) (kf : ¬ 0 ≤ x → QV G X nL Q (pc + 3) lv st w ty kc ks) : QV G X nL Q pc lv (.int x :: st) w ty kc ks :=
  fun H locs ls hK hP hD hS hl => lv_if_ge C.1 C.2.1 d ht (fun c => kt c H locs ls hK hP hD hS hl) (fun c => kf c H locs ls hK hP hD hS hl)
theorem v_if_gt (C : VC X cc nL own fr lo cl sl) {x : Int32} {off : Int} {tgt : Nat} (d : decode cc pc = .ok (.ifCond .gt off, 3)) (ht : (pc : Int) + off = (tgt : Int)) (kt : 0 < x → QV G X nL Q tgt lv st w ty kc ks) (kf : ¬ 0 < x → QV G X nL Q (pc + 3) lv st w ty kc ks) : QV G X nL Q pc lv (.int x :: st) w ty kc ks :=
  fun H locs ls hK hP hD hS hl => lv_if_gt C.1 C.2.1 d ht (fun c => kt c H locs ls hK hP hD hS hl) (fun c => kf c H locs ls hK hP hD hS hl)
theorem v_if_le (C : VC X cc nL own fr lo cl sl) {x : Int32} {off : Int} {tgt : Nat} (d : decode cc pc = .ok (.ifCond .le off, 3)) (ht : (pc : Int) + off = (tgt : Int)) (kt : x ≤ 0 → QV G X nL Q tgt lv st w ty kc ks) (kf : ¬ x ≤ 0 → QV G X nL Q (pc + 3) lv st w ty kc ks) : QV G X nL Q pc lv (.int x :: st) w ty kc ks :=
  fun H locs ls hK hP hD hS hl => lv_if_le C.1 C.2.1 d ht (fun c => kt c H locs ls hK hP hD hS hl) (fun c => kf c H locs ls hK hP hD hS hl)
theorem v_icmp_eq (C : VC X cc nL own fr lo cl sl) {x y : Int32} {off : Int} {tgt : Nat} (d : decode cc pc = .ok (.if_icmp .eq off, 3)) (ht : (pc : Int) + off = (tgt : Int)) (kt : x = y → QV G X nL Q tgt lv st w ty kc ks) (kf : ¬ x = y → QV G X nL Q (pc + 3) lv st w ty kc ks) : QV G X nL Q pc lv (.int y :: .int x :: st) w ty kc ks :=
  fun H locs ls hK hP hD hS hl => lv_icmp_eq C.1 C.2.1 d ht (fun c => kt c H locs ls hK hP hD hS hl) (fun c => kf c H locs ls hK hP hD hS hl)
theorem v_icmp_ne (C : VC X cc nL own fr lo cl sl) {x y : Int32} {off : Int} {tgt : Nat} (d : decode cc pc = .ok (.if_icmp .ne off, 3)) (ht : (pc : Int) + off = (tgt : Int)) (kt : ¬ x = y → QV G X nL Q tgt lv st w ty kc ks) (kf : x = y → QV G X nL Q (pc + 3) lv st w ty kc ks) : QV G X nL Q pc lv (.int y :: .int x :: st) w ty kc ks :=
  fun H locs ls hK hP hD hS hl => lv_icmp_ne C.1 C.2.1 d ht (fun c => kt c H locs ls hK hP hD hS hl) (fun c => kf c H locs ls hK hP hD hS hl)
theorem v_icmp_lt (C : VC X cc nL own fr lo cl sl) {x y : Int32} {off : Int} {tgt : Nat} (d : decode cc pc = .ok (.if_icmp .lt off, 3)) (ht : (pc : Int) + off = (tgt : Int)) (kt : x < y → QV G X nL Q tgt lv st w ty kc ks) (kf : ¬ x < y → QV G X nL Q (pc + 3) lv st w ty kc ks) : QV G X nL Q pc lv (.int y :: .int x :: st) w ty kc ks :=
  fun H locs ls hK hP hD hS hl => lv_icmp_lt C.1 C.2.1 d ht (fun c => kt c H locs ls hK hP hD hS hl) (fun c => kf c H locs ls hK hP hD hS hl)
theorem v_icmp_ge (C : VC X cc nL own fr lo cl sl) {x y : Int32} {off : Int} {tgt : Nat} (d : decode cc pc = .ok (.if_icmp .ge off, 3)) (ht : (pc : Int) + off = (tgt : Int)) (kt : y ≤ x → QV G X nL Q tgt lv st w ty kc ks) (kf : ¬ y ≤ x → QV G X nL Q (pc + 3) lv st w ty kc ks) : QV G X nL Q pc lv (.int y :: .int x :: st) w ty kc ks :=
  fun H locs ls hK hP hD hS hl => lv_icmp_ge C.1 C.2.1 d ht (fun c => kt c H locs ls hK hP hD hS hl) (fun c => kf c H locs ls hK hP hD hS hl)
theorem v_icmp_gt (C : VC X cc nL own fr lo cl sl) {x y : Int32} {off : Int} {tgt : Nat} (d : decode cc pc = .ok (.if_icmp .gt off, 3)) (ht : (pc : Int) + off = (tgt : Int)) (kt : y < x → QV G X nL Q tgt lv st w ty kc ks) (kf : ¬ y < x → QV G X nL Q (pc + 3) lv st w ty kc ks) : QV G X nL Q pc lv (.int y :: .int x :: st) w ty kc ks :=
  fun H locs ls hK hP hD hS hl => lv_icmp_gt C.1 C.2.1 d ht (fun c => kt c H locs ls hK hP hD hS hl) (fun c => kf c H locs ls hK hP hD hS hl)
theorem v_icmp_le (C : VC X cc nL own fr lo cl sl) {x y : Int32} {off : Int} {tgt : Nat} (d : decode cc pc = .ok (.if_icmp .le off, 3)) (ht : (pc : Int) + off = (tgt : Int)) (kt : x ≤ y → QV G X nL Q tgt lv st w ty kc ks) (kf : ¬ x ≤ y → QV G X nL Q (pc + 3) lv st w ty kc ks) : QV G X nL Q pc lv (.int y :: .int x :: st) w ty kc ks :=
  fun H locs ls hK hP hD hS hl => lv_icmp_le C.1 C.2.1 d ht (fun c => kt c H locs ls hK hP hD hS hl) (fun c => kf c H locs ls hK hP hD hS hl)
theorem v_lv {lv' : List (Nat × Value)} (is : List Nat) (hl : lv_pick lv is = lv') (kk : QV G X nL Q pc lv' st w ty kc ks) : QV G X nL Q pc lv st w ty kc ks :=
  fun H locs ls hK hP hD hS h => kk H locs ls hK hP hD hS (lv_sub h is hl)
theorem v_widen {kc' ks' : Nat} (h1 : kc ≤ kc') (h2 : ks ≤ ks') (kk : QV G X nL Q pc lv st w ty kc' ks') : QV G X nL Q pc lv st w ty kc ks :=
  fun H locs ls hK hP hD hS h => W.widen h1 h2 (kk H locs ls hK hP hD hS h)
theorem va_D_sub {A : Nat → Prop} {w w' : va_W} (h : va_D A w) (is : List Nat) (hn : va_nd is = true) (hs : is.map (fun i => w[i]?) = w'.map some) : va_D A w' := by
  have key : ∀ (k : Nat) (q : Nat × va_E), w'[k]? = some q → ∃ i, is[k]? = some i ∧ w[i]? = some q := by
    intro k q hk
    have h1 : (is.map (fun i => w[i]?))[k]? = some (some q) := by rw [hs, List.getElem?_map, hk]; rfl
    rw [List.getElem?_map] at h1
    cases hi : is[k]? with
    | none => rw [hi] at h1; cases h1
    | some i => rw [hi] at h1; exact ⟨i, rfl, Option.some.inj h1⟩
  refine ⟨fun i j p q h1 h2 h3 => ?_, fun k q hk => ?_⟩
  · obtain ⟨a, ha, ha2⟩ := key i p h1
    obtain ⟨b, hb, hb2⟩ := key j q h2
    have e := h.1 a b p q ha2 hb2 h3
    subst e
    exact va_nd_inj is hn i j a ha hb
  · obtain ⟨a, ha, ha2⟩ := key k q hk
    exact h.2 a q ha2
theorem va_P_sub {D : va_G} {cl : List vw_C} {w w' : va_W} {H : Heap} (h : va_P D cl w H) (is : List Nat) (hs : is.map (fun i => w[i]?) = w'.map some) : va_P D cl w' H := by
  intro k q hk
  have h1 : (is.map (fun i => w[i]?))[k]? = some (some q) := by rw [hs, List.getElem?_map, hk]; rfl
  rw [List.getElem?_map] at h1
  cases hi : is[k]? with
  | none => rw [hi] at h1; cases h1
  | some i => rw [hi] at h1; exact h i q (Option.some.inj h1)
theorem va_K_sub {D : va_G} {cl : List vw_C} {t t' : List (ClassId × FieldType)} {U : State} (h : va_K D cl t U) (is : List Nat) (hs : is.map (fun i => t[i]?) = t'.map some) : va_K D cl t' U := by
  refine ⟨h.1, fun k q hk => ?_⟩
  have h1 : (is.map (fun i => t[i]?))[k]? = some (some q) := by rw [hs, List.getElem?_map, hk]; rfl
  rw [List.getElem?_map] at h1
  cases hi : is[k]? with
  | none => rw [hi] at h1; cases h1
  | some i => rw [hi] at h1; exact h.2 i q (Option.some.inj h1)
/-- other cells, fewer, in another order: by their places -/
theorem v_ws {w' : va_W} {ty' : List (ClassId × FieldType)} (is it : List Nat) (hn : va_nd is = true) (hs : is.map (fun i => w[i]?) = w'.map some) (ht : it.map (fun i => ty[i]?) = ty'.map some) (kk : QV G X nL Q pc lv st w' ty' kc ks) : QV G X nL Q pc lv st w ty kc ks :=
  fun H locs ls hK hP hD hS h => kk H locs ls (va_K_sub hK it ht) (va_P_sub hP is hs) (va_D_sub hD is hn hs) hS h
theorem v_get {k ci j index N q0 : Nat} {fs : List Value} {v : Value} {ref Cn : String} {T : u_T} (C : VC X cc nL own fr lo cl sl) (he : w[k]? = some (q0, .inr (ci, fs))) (hc : vwCl[ci]? = some (Cn, T, N)) (hin : ∀ w ∈ u_ws Cn T N, w ∈ wsL_law0) (hj : j < N) (hv : fs[j]? = some v) (hlink : Cond.fieldLink own index ref (T j).2.1 (T j).2.2.1 ∈ wsL_law0) (hsame : (T j).1 = ref ∨ Cond.sameField ref (T j).1 (T j).2.1 (T j).2.2.1 ∈ wsL_law0) (d : decode cc pc = .ok (.getfield index, 3)) (kk : QV G X nL Q (pc + 3) lv (v :: st) w ty kc ks) : QV G X nL Q pc lv (.ref q0 :: st) w ty kc ks := by
  intro H locs ls hK hP hD hS hl
  obtain ⟨hx, hb, -, hts, hown, -⟩ := C
  refine va_get (D := gD G) (ci := ci) (v := v) (C := Cn) (T := T) (N := N) hx hb hts hin hown hK hP k he hc j hj (hts _ hlink) ?_ hv d (kk H locs ls hK hP hD hS hl)
  rcases hsame with h | h
  · rw [h]; exact fun _ h9 => h9
  · exact fun x hx9 => u_same (hts _ h) x hx9
theorem v_put {k ci j index N q0 : Nat} {fs : List Value} {v : Value} {t9 : FieldType} {w' : va_W} {ref Cn : String} {T : u_T} (C : VC X cc nL own fr lo cl sl) (ty0 : Nat → FieldType) (hty : ∀ k, k < N → parseFieldDescriptor (T k).2.2.1 = some (ty0 k)) (hnm : ∀ a, a < N → ∀ b, b < N → a ≠ b → (T a).2.1 ≠ (T b).2.1) (he : w[k]? = some (q0, .inr (ci, fs))) (hw' : w.set k (q0, .inr (ci, fs.set j v)) = w') (hc : vwCl[ci]? = some (Cn, T, N)) (hin : ∀ w ∈ u_ws Cn T N, w ∈ wsL_law0) (hj : j < N) (hl9 : j < fs.length) (hlink : Cond.fieldLink own index ref (T j).2.1 (T j).2.2.1 ∈ wsL_law0) (hsame : (T j).1 = ref ∨ Cond.sameField ref (T j).1 (T j).2.1 (T j).2.2.1 ∈ wsL_law0) (hfin : (T j).2.2.2 = false) (hd : parseFieldDescriptor (T j).2.2.1 = some t9) (hn : narrow t9 v = v) (hfit : fits t9 v = true) (d : decode cc pc = .ok (.putfield index, 3)) (kk : QV G X nL Q (pc + 3) lv st w' ty kc ks) : QV G X nL Q pc lv (v :: .ref q0 :: st) w ty kc ks := by
  intro H locs ls hK hP hD hS hl
  obtain ⟨hx, hb, -, hts, hown, -⟩ := C
  refine va_put (D := gD G) (ci := ci) (v := v) (ty := t9) (C := Cn) (T := T) (N := N) hx hb hts hin ty0 hty hnm hown hK hP hD hS k he hc j hj (hts _ hlink) ?_ hfin hd hn hfit hl9 d (fun H1 locs1 hP1 hD1 hS1 => kk H1 locs1 ls hK (by rw [← hw']; exact hP1) (by rw [← hw']; exact hD1) hS1 hl)
  rcases hsame with h | h
  · rw [h]; exact fun _ h9 => h9
  · exact fun x hx9 => u_same (hts _ h) x hx9
theorem v_putF {k ci j index N q0 : Nat} {fs : List Value} {v : Value} {t9 : FieldType} {w' : va_W} {Cn : String} {T : u_T} (C : VC X cc nL own fr lo cl sl) (hin2 : (xmeth X).name = "<init>") (ty0 : Nat → FieldType) (hty : ∀ k, k < N → parseFieldDescriptor (T k).2.2.1 = some (ty0 k)) (hnm : ∀ a, a < N → ∀ b, b < N → a ≠ b → (T a).2.1 ≠ (T b).2.1) (he : w[k]? = some (q0, .inr (ci, fs))) (hw' : w.set k (q0, .inr (ci, fs.set j v)) = w') (hc : vwCl[ci]? = some (Cn, T, N)) (hin : ∀ w ∈ u_ws Cn T N, w ∈ wsL_law0) (hj : j < N) (hl9 : j < fs.length) (hlink : Cond.fieldLink own index own (T j).2.1 (T j).2.2.1 ∈ wsL_law0) (hfin : (T j).2.2.2 = true) (hdecl : (T j).1 = own) (hd : parseFieldDescriptor (T j).2.2.1 = some t9) (hn : narrow t9 v = v) (hfit : fits t9 v = true) (d : decode cc pc = .ok (.putfield index, 3)) (kk : QV G X nL Q (pc + 3) lv st w' ty kc ks) : QV G X nL Q pc lv (v :: .ref q0 :: st) w ty kc ks := by
  intro H locs ls hK hP hD hS hl
  obtain ⟨hx, hb, -, hts, hown, -⟩ := C
  exact va_putF (D := gD G) (ci := ci) (v := v) (ty := t9) (C := Cn) (T := T) (N := N) hx hb hts hin ty0 hty hnm hown hK hP hD hS k he hc j hj (hts _ hlink) (by rw [hdecl]; exact fun _ h9 => h9) hfin hin2 hdecl hd hn hfit hl9 d (fun H1 locs1 hP1 hD1 hS1 => kk H1 locs1 ls hK (by rw [← hw']; exact hP1) (by rw [← hw']; exact hD1) hS1 hl)
theorem v_iald {p t0 q0 n : Nat} {cA : ClassId} {f : Nat → Int32} {i : Int32} (C : VC X cc nL own fr lo cl sl) (he : w[p]? = some (q0, .inl (cA, n, .inl f))) (ht : ty[t0]? = some (cA, .int)) (hin : vp_in i n) (d : decode cc pc = .ok (.iaload, 1)) (kk : QV G X nL Q (pc + 1) lv (.int (f i.toNatClampNeg) :: st) w ty kc ks) : QV G X nL Q pc lv (.int i :: .ref q0 :: st) w ty kc ks := by
  intro H locs ls hK hP hD hS hl
  exact va_iald C.1 C.2.1 hK hP p t0 he ht hin d (kk H locs ls hK hP hD hS hl)
theorem v_zald {p t0 q0 n : Nat} {cA : ClassId} {f : Nat → Int32} {i : Int32} (C : VC X cc nL own fr lo cl sl) (he : w[p]? = some (q0, .inl (cA, n, .inl f))) (ht : ty[t0]? = some (cA, .boolean)) (hin : vp_in i n) (d : decode cc pc = .ok (.baload, 1)) (kk : QV G X nL Q (pc + 1) lv (.int (f i.toNatClampNeg) :: st) w ty kc ks) : QV G X nL Q pc lv (.int i :: .ref q0 :: st) w ty kc ks := by
  intro H locs ls hK hP hD hS hl
  exact va_zald C.1 C.2.1 hK hP p t0 he ht hin d (kk H locs ls hK hP hD hS hl)
theorem v_iast {p t0 q0 n : Nat} {cA : ClassId} {f : Nat → Int32} {i x : Int32} {w' : va_W} (C : VC X cc nL own fr lo cl sl) (he : w[p]? = some (q0, .inl (cA, n, .inl f))) (ht : ty[t0]? = some (cA, .int)) (hin : vp_in i n) (hw' : w.set p (q0, .inl (cA, n, .inl (upd f i.toNatClampNeg x))) = w') (d : decode cc pc = .ok (.iastore, 1)) (kk : QV G X nL Q (pc + 1) lv st w' ty kc ks) : QV G X nL Q pc lv (.int x :: .int i :: .ref q0 :: st) w ty kc ks := by
  intro H locs ls hK hP hD hS hl
  exact va_iast C.1 C.2.1 hK hP hD hS p t0 he ht hin d (fun H1 locs1 hP1 hD1 hS1 => kk H1 locs1 ls hK (by rw [← hw']; exact hP1) (by rw [← hw']; exact hD1) hS1 hl)
theorem v_zast1 {p t0 q0 n : Nat} {cA : ClassId} {f : Nat → Int32} {i : Int32} {w' : va_W} (C : VC X cc nL own fr lo cl sl) (he : w[p]? = some (q0, .inl (cA, n, .inl f))) (ht : ty[t0]? = some (cA, .boolean)) (hin : vp_in i n) (hw' : w.set p (q0, .inl (cA, n, .inl (upd f i.toNatClampNeg 1))) = w') (d : decode cc pc = .ok (.bastore, 1)) (kk : QV G X nL Q (pc + 1) lv st w' ty kc ks) : QV G X nL Q pc lv (.int 1 :: .int i :: .ref q0 :: st) w ty kc ks := by
  intro H locs ls hK hP hD hS hl
  exact va_zast C.1 C.2.1 hK hP hD hS p t0 he ht hin d (fun H1 locs1 hP1 hD1 hS1 => kk H1 locs1 ls hK (by rw [← hw', ← nar1]; exact hP1) (by rw [← hw', ← nar1]; exact hD1) hS1 hl)
theorem v_newI {n : Int32} {N' : Nat} (C : VC X cc nL own fr lo cl sl) (harr : Cond.arrayClass .int ∈ wsL_law0) (hn : ¬ n < 0) (hN : n.toNatClampNeg = N') (hbytes : N' * componentBytes .int ≤ 536870912) (hcells : kc + 1 ≤ cl) (hslots : ks + N' ≤ sl) (d : decode cc pc = .ok (.newarray .int, 2)) (kk : ∀ (q : Nat) (cA : ClassId), QV G X nL Q (pc + 2) lv (.ref q :: st) (w ++ [(q, .inl (cA, N', .inl (fun _ => 0)))]) (ty ++ [(cA, .int)]) (kc + 1) (ks + N')) : QV G X nL Q pc lv (.int n :: st) w ty kc ks := by
  intro H locs ls hK hP hD hS hl
  obtain ⟨hx, hb, -, hts, hown, -, hA, -, hR⟩ := C
  exact va_newa (atype := .int) hx hb (hts _ harr) rfl hK hP hD hS hA (a0 := (N', .inl (fun _ => 0))) (fun cA => rfl) hn hN hbytes (by rw [hR]; exact hcells) (by rw [hR]; exact hslots) d (fun q cA H1 hK1 hP1 hD1 hS1 => kk q cA H1 locs ls hK1 hP1 hD1 hS1 hl)
theorem v_newZ {n : Int32} {N' : Nat} (C : VC X cc nL own fr lo cl sl) (harr : Cond.arrayClass .boolean ∈ wsL_law0) (hn : ¬ n < 0) (hN : n.toNatClampNeg = N') (hbytes : N' * componentBytes .boolean ≤ 536870912) (hcells : kc + 1 ≤ cl) (hslots : ks + N' ≤ sl) (d : decode cc pc = .ok (.newarray .boolean, 2)) (kk : ∀ (q : Nat) (cA : ClassId), QV G X nL Q (pc + 2) lv (.ref q :: st) (w ++ [(q, .inl (cA, N', .inl (fun _ => 0)))]) (ty ++ [(cA, .boolean)]) (kc + 1) (ks + N')) : QV G X nL Q pc lv (.int n :: st) w ty kc ks := by
  intro H locs ls hK hP hD hS hl
  obtain ⟨hx, hb, -, hts, hown, -, hA, -, hR⟩ := C
  exact va_newa (atype := .boolean) hx hb (hts _ harr) rfl hK hP hD hS hA (a0 := (N', .inl (fun _ => 0))) (fun cA => rfl) hn hN hbytes (by rw [hR]; exact hcells) (by rw [hR]; exact hslots) d (fun q cA H1 hK1 hP1 hD1 hS1 => kk q cA H1 locs ls hK1 hP1 hD1 hS1 hl)
theorem va_D_congr {A : Nat → Prop} {w w' : va_W} (h : va_D A w) (hm : w'.map Prod.fst = w.map Prod.fst) : va_D A w' := by
  have key : ∀ (k : Nat) (q : Nat × va_E), w'[k]? = some q → ∃ q0, w[k]? = some q0 ∧ q0.1 = q.1 := by
    intro k q hk
    have h1 : (w'.map Prod.fst)[k]? = some q.1 := by rw [List.getElem?_map, hk]; rfl
    rw [hm, List.getElem?_map] at h1
    cases hi : w[k]? with
    | none => rw [hi] at h1; cases h1
    | some q0 => rw [hi] at h1; exact ⟨q0, rfl, Option.some.inj h1⟩
  refine ⟨fun i j x y hi hj hxy => ?_, fun k q hk => ?_⟩
  · obtain ⟨x0, h1, h2⟩ := key i x hi
    obtain ⟨y0, h3, h4⟩ := key j y hj
    exact h.1 i j x0 y0 h1 h3 (h2.trans (hxy.trans h4.symm))
  · obtain ⟨q0, h1, h2⟩ := key k q hk
    rw [← h2]
    exact h.2 k q0 h1
theorem wl_fst {ad : Nat → Nat} {ca : Nat → ClassId} {S : St} : (wl ad ca S).map Prod.fst = (List.range 59).map ad := by simp [wl]
theorem va_P_l {D : va_G} {cl : List vw_C} {w1 w2 : va_W} {H : Heap} (h : va_P D cl (w1 ++ w2) H) : va_P D cl w1 H := fun k q hk => h k q (by rw [List.getElem?_append_left (List.getElem?_eq_some_iff.mp hk).1]; exact hk)
theorem va_P_r {D : va_G} {cl : List vw_C} {w1 w2 : va_W} {H : Heap} (h : va_P D cl (w1 ++ w2) H) : va_P D cl w2 H := fun k q hk => h (w1.length + k) q (by rw [List.getElem?_append_right (by omega), Nat.add_sub_cancel_left]; exact hk)
theorem va_K_l {D : va_G} {cl : List vw_C} {t1 t2 : List (ClassId × FieldType)} {U : State} (h : va_K D cl (t1 ++ t2) U) : va_K D cl t1 U := ⟨h.1, fun k q hk => h.2 k q (by rw [List.getElem?_append_left (List.getElem?_eq_some_iff.mp hk).1]; exact hk)⟩
/-- the law's world: the class's cells over S, and arrays of its own -/
abbrev lw (G : Gx) (S : St) (ex : va_W) : va_W := wl (gad G) (gca G) S ++ ex
abbrev lt (G : Gx) (et : List (ClassId × FieldType)) : List (ClassId × FieldType) := TYS (gca G) ++ et
theorem v_on {S S' : St} {ex : va_W} {et : List (ClassId × FieldType)} {v : Option Value} {rest : List Value} {H : Heap} {locs : List Loc} {ls : Array Slot} (hA : ∀ q, (xs X).heap.size ≤ q → xA X q) (hK : va_K (gD G) vwCl (lt G et) (xs X)) (hP : va_P (gD G) vwCl (lw G S ex) H) (hD : va_D (xA X) (lw G S ex)) (hS : va_S (xA X) (xs X).heap H locs) (hl : lv_has ls nL lv)
    (hr : va_Run (xp X) (gl G) (xe X) (xR X) (xs X) (xm X) (xargs X) (xbelow X) (xmeth X) (xc X) H locs kc ks 0 0 (F0 (xm X) pc ls st) rest (fun st oc t => (oc = .returned v ∧ qB G S' t) ∧ va_F (fA (gad G) H.size) st t) (fA (gad G) H.size))
    (kk : QV G X nL Q (pc + 3) lv (v.toList ++ rest) (lw G S' ex) (lt G et) kc ks) : W (xp X) (gl G) (xe X) (xR X) (xs X) (xm X) (xargs X) (xbelow X) (xmeth X) (xc X) H locs kc ks Q (F0 (xm X) pc ls st) := by
  have hA2 : ∀ k, k < 59 → xA X (gad G k) := fun k hk => hD.2 k (gad G k, cE (gad G) (gca G) k (S k)) (by rw [List.getElem?_append_left (by rw [wl_len]; exact hk), wl_at hk])
  have hf : ∀ q, fA (gad G) H.size q → xA X q := by
    intro q hq
    rcases hq with ⟨k, hk, rfl⟩ | hq
    · exact hA2 k hk
    · exact hA q (Nat.le_trans hS.1 hq)
  have hex : ∀ (j : Nat) (q : Nat × va_E), ex[j]? = some q → ¬ fA (gad G) H.size q.1 := by
    intro j q hq hfa
    have hj : (lw G S ex)[59 + j]? = some q := by rw [List.getElem?_append_right (by rw [wl_len]; omega), wl_len, Nat.add_sub_cancel_left]; exact hq
    rcases hfa with ⟨k, hk, he⟩ | hge
    · have hk1 : (lw G S ex)[k]? = some (gad G k, cE (gad G) (gca G) k (S k)) := by rw [List.getElem?_append_left (by rw [wl_len]; exact hk), wl_at hk]
      have := hD.1 _ _ _ _ hj hk1 he
      omega
    · exact absurd (hP _ _ hj).lt (Nat.not_lt.mpr hge)
  intro T hT X9
  obtain ⟨v9, st₀, t, T', L, h0, X', hL, e1, e2, ⟨⟨hv, hP1, -, -⟩, hz, hk⟩, stp⟩ := hr T hT X9
  cases hv
  rw [h0] at hz hk
  have hPe : va_P (gD G) vwCl ex T'.heap := (va_P_r hP).kept (fun j q hq => by rw [e1]; exact hk q.1 (va_P_r hP j q hq).lt (hex j q hq))
  obtain ⟨t2, a1, b1⟩ := kk T'.heap (locs ++ L) ls hK (va_P.app (by rw [e1]; exact hP1) hPe) (va_D_congr hD (by simp [lw, wl_fst]))
    ⟨Nat.le_trans hS.1 (by rw [e1]; exact hz), fun q h1 h2 => by rw [e1, hk q (Nat.lt_of_lt_of_le h1 hS.1) (fun z => h2 (hf q z))]; exact hS.2.1 q h1 h2, fun q hq => by
      rcases List.mem_append.mp hq with h | h
      · exact hS.2.2 q h
      · exact hf _ (hL q h)⟩ hl T' rfl X'
  exact ⟨t2, stp t2 a1, b1⟩
section VCall
variable {k ci index n ny fy loy nA : Nat} {fs As rest : List Value} {x y : MethodName} {cy : ByteArray} {ry : Option FieldType} {v : Option Value} {S S' : St} {ex : va_W} {et : List (ClassId × FieldType)} {owner Cn : String} {T : u_T} {N : Nat}
theorem v_callV (C : VC X cc nL own fr lo cl sl) (hkc : kc ≤ cl) (hks : ks ≤ sl) (hM : QMet G y cy ny ry fy loy (.ref (gad G k) :: As) S v S') (hk : k < 59) (he : cE (gad G) (gca G) k (S k) = .inr (ci, fs)) (hc : vwCl[ci]? = some (Cn, T, N))
    (w1 : Cond.methodLink own index y ∈ wsL_law0) (w2 : Cond.instanceMethod y ∈ wsL_law0) (w3 : Cond.selects Cn y y ∈ wsL_law0) (w4 : Cond.initialized Cn ∈ wsL_law0) (w5 : Cond.code y cy ny ry ∈ wsL_law0)
    (hd : y.cls = Cn ∧ y.cls ≠ "java/lang/invoke/MethodHandle" ∧ y.cls ≠ "java/lang/invoke/VarHandle" ∧ (parseMethodDescriptor y.desc).map (fun d => d.parameters.length) = some nA) (hA9 : As.length = nA) (hR : fy + 1 ≤ fr ∧ 8 + (ny + 11) + loy ≤ lo) (hW : (rest.map fun v => v.category).sum ≤ 8) (hst : As.reverse ++ .ref (gad G k) :: rest = st) (d : decode cc pc = .ok (.invokevirtual index, 3))
    (kk : QV G X nL Q (pc + 3) lv (v.toList ++ rest) (lw G S' ex) (lt G et) kc ks) : QV G X nL Q pc lv st (lw G S ex) (lt G et) kc ks := by
  intro H locs ls hK hP hD hS hl
  subst hA9
  obtain ⟨hx, hb, hml, hts, hown, hN, hA, -, hRm⟩ := C
  have hG : GoodIn wsL_law0 (wsV own index Cn y (.code y cy ny ry :: wsL_law0)) := q_good w5 (by
    intro w hw
    rcases List.mem_cons.mp hw with q | hw; · rw [q]; exact w1
    rcases List.mem_cons.mp hw with q | hw; · rw [q]; exact w2
    rcases List.mem_cons.mp hw with q | hw; · rw [q]; exact w3
    rcases List.mem_cons.mp hw with q | hw; · rw [q]; exact w4
    cases hw) rfl
  exact v_on hA hK hP hD hS hl (va_runV (As := As) (rest := rest) ⟨hx, hb, hml, hown, hts⟩ (hM H.size) (cwV As.length hts hG rfl rfl rfl hd (by rw [hRm]; exact hR)) ⟨q_blind, va_recv (va_K_l hK) (va_P_l hP) (ci := ci) (q0 := k) hc (by rw [wl_at hk, he]), fun U hU hW9 => ⟨rfl, by rw [hU], by rw [hU]; exact va_P_l hP, va_K.moved hW9.alike (va_K_l hK), q_Nw hW9 hN⟩⟩ rfl rfl hl.1 hst.symm (lv_room hW) d ⟨by rw [hRm]; exact hkc, by rw [hRm]; exact hks⟩) kk
theorem v_callS (C : VC X cc nL own fr lo cl sl) (hkc : kc ≤ cl) (hks : ks ≤ sl) (hM : QMet G y cy ny ry fy loy As S v S')
    (w1 : Cond.methodLink own index y ∈ wsL_law0) (w2 : Cond.static y ∈ wsL_law0) (w4 : Cond.initialized y.cls ∈ wsL_law0) (w5 : Cond.code y cy ny ry ∈ wsL_law0)
    (hd : y.cls ≠ "java/lang/invoke/MethodHandle" ∧ y.cls ≠ "java/lang/invoke/VarHandle" ∧ (parseMethodDescriptor y.desc).map (fun d => d.parameters.length) = some nA) (hA9 : As.length = nA) (hR : fy + 1 ≤ fr ∧ 8 + (ny + 11) + loy ≤ lo) (hW : (rest.map fun v => v.category).sum ≤ 8) (hst : As.reverse ++ rest = st) (d : decode cc pc = .ok (.invokestatic index, 3))
    (kk : QV G X nL Q (pc + 3) lv (v.toList ++ rest) (lw G S' ex) (lt G et) kc ks) : QV G X nL Q pc lv st (lw G S ex) (lt G et) kc ks := by
  intro H locs ls hK hP hD hS hl
  subst hA9
  obtain ⟨hx, hb, hml, hts, hown, hN, hA, -, hRm⟩ := C
  have hG : GoodIn wsL_law0 (va_wsS own index y (.code y cy ny ry :: wsL_law0)) := q_good w5 (by
    intro w hw
    rcases List.mem_cons.mp hw with q | hw; · rw [q]; exact w1
    rcases List.mem_cons.mp hw with q | hw; · rw [q]; exact w2
    rcases List.mem_cons.mp hw with q | hw; · rw [q]; exact w4
    cases hw) rfl
  exact v_on hA hK hP hD hS hl (va_runS (As := As) (rest := rest) ⟨hx, hb, hml, hown, hts⟩ (hM H.size) (va_cwS As.length hts hG rfl rfl rfl hd (by rw [hRm]; exact hR)) ⟨q_blind, fun U hU hW9 => ⟨rfl, by rw [hU], by rw [hU]; exact va_P_l hP, va_K.moved hW9.alike (va_K_l hK), q_Nw hW9 hN⟩⟩ rfl rfl hl.1 hst.symm (lv_room hW) d ⟨by rw [hRm]; exact hkc, by rw [hRm]; exact hks⟩) kk
end VCall
theorem v_eq {w' : va_W} {ty' : List (ClassId × FieldType)} (h1 : w = w') (h2 : ty = ty') (kk : QV G X nL Q pc lv st w' ty' kc ks) : QV G X nL Q pc lv st w ty kc ks := by
  subst h1; subst h2; exact kk
theorem v_ex {S : St} {ex ex' : va_W} {et et' : List (ClassId × FieldType)} (is : List Nat) (hn : va_nd is = true) (hs : is.map (fun i => ex[i]?) = ex'.map some) (ht : is.map (fun i => et[i]?) = et'.map some) (kk : QV G X nL Q pc lv st (lw G S ex') (lt G et') kc ks) : QV G X nL Q pc lv st (lw G S ex) (lt G et) kc ks := by
  intro H locs ls hK hP hD hS hl
  have key : ∀ (k : Nat) (q : Nat × va_E), ex'[k]? = some q → ∃ i : Nat, ex[i]? = some q := by
    intro k q hk
    have h1 : (is.map (fun i => ex[i]?))[k]? = some (some q) := by rw [hs, List.getElem?_map, hk]; rfl
    rw [List.getElem?_map] at h1
    cases hi : is[k]? with
    | none => rw [hi] at h1; cases h1
    | some i => rw [hi] at h1; exact ⟨i, Option.some.inj h1⟩
  have hr : va_D (xA X) ex := by
    refine ⟨fun i j p q h1 h2 h3 => ?_, fun k q hk => ?_⟩
    · have := hD.1 (59 + i) (59 + j) p q (by rw [List.getElem?_append_right (by rw [wl_len]; omega), wl_len, Nat.add_sub_cancel_left]; exact h1) (by rw [List.getElem?_append_right (by rw [wl_len]; omega), wl_len, Nat.add_sub_cancel_left]; exact h2) h3
      omega
    · exact hD.2 (59 + k) q (by rw [List.getElem?_append_right (by rw [wl_len]; omega), wl_len, Nat.add_sub_cancel_left]; exact hk)
  have hl2 : va_D (xA X) (wl (gad G) (gca G) S) := by
    refine ⟨fun i j p q h1 h2 h3 => hD.1 i j p q ?_ ?_ h3, fun k q hk => hD.2 k q ?_⟩
    · rw [List.getElem?_append_left (List.getElem?_eq_some_iff.mp h1).1]; exact h1
    · rw [List.getElem?_append_left (List.getElem?_eq_some_iff.mp h2).1]; exact h2
    · rw [List.getElem?_append_left (List.getElem?_eq_some_iff.mp hk).1]; exact hk
  have hx : ∀ (i j : Nat) (p q : Nat × va_E), (wl (gad G) (gca G) S)[i]? = some p → ex'[j]? = some q → p.1 ≠ q.1 := by
    intro i j p q h1 h2 h3
    obtain ⟨j', h4⟩ := key j q h2
    have hi := (List.getElem?_eq_some_iff.mp h1).1
    have := hD.1 i (59 + j') p q (by rw [List.getElem?_append_left hi]; exact h1) (by rw [List.getElem?_append_right (by rw [wl_len]; omega), wl_len, Nat.add_sub_cancel_left]; exact h4) h3
    rw [wl_len] at hi
    omega
  have hKr : va_K (gD G) vwCl et (xs X) := ⟨hK.1, fun k q hk => hK.2 ((TYS (gca G)).length + k) q (by rw [List.getElem?_append_right (by omega), Nat.add_sub_cancel_left]; exact hk)⟩
  exact kk H locs ls ((va_K_l hK).app (va_K_sub hKr is ht)) ((va_P_l hP).app (va_P_sub (va_P_r hP) is hs)) (va_D.app hl2 (va_D_sub hr is hn hs) hx) hS hl
theorem lw_ex {S : St} {ex : va_W} {q : Nat × va_E} (p : Nat) (h : ex[p]? = some q) : (lw G S ex)[59 + p]? = some q := by
  rw [List.getElem?_append_right (by rw [wl_len]; omega), wl_len, Nat.add_sub_cancel_left]; exact h
theorem lt_ex {et : List (ClassId × FieldType)} {q : ClassId × FieldType} (p : Nat) (h : et[p]? = some q) : (lt G et)[42 + p]? = some q := by
  rw [List.getElem?_append_right (by simp [TYS]), show (TYS (gca G)).length = 42 by simp [TYS], Nat.add_sub_cancel_left]; exact h
theorem lw_set {S : St} {ex ex' : va_W} {q : Nat × va_E} (p : Nat) (h : ex.set p q = ex') : (lw G S ex).set (59 + p) q = lw G S ex' := by
  rw [List.set_append_right _ _ (by rw [wl_len]; omega), wl_len, Nat.add_sub_cancel_left, h]
/-- the script, as it is at the law's entry -/
def LX (X : Cx) (b L : Nat) (xs9 : Nat → Int32) : Prop := va_X b L xs9 (xs X) (xs X).heap ∧ b < (xs X).heap.size ∧ ¬ xA X b
set_option maxRecDepth 100000 in
theorem c_cell {l : Launch} {b L : Nat} {xs9 : Nat → Int32} {k : Int32} : Met l yL_cell (.code yL_cell cL_cell 2 (some .int) :: wsL_law0) { frames := 0, cells := 0, slots := 0, locals := 0 } (va_Pc [.ref b, .int k] (fun U => va_X b L xs9 U U.heap ∧ ∃ r, m_cell xs9 L k = some r)) (vp_Si (fun r => m_cell xs9 L k = some r)) 0 0 (fun _ => False) := by
  refine Met.ofW (cc := cL_cell) (maxL := 2) (ret := some .int) (by decide +kernel) rfl ?_
  intro p e s m args below meth c s₁ B hml hv
  obtain ⟨rfl, hX, r, hm⟩ := hv
  have hx := B.exec
  have hb := B.bytes
  have hr := B.returns
  have hts := atoms_spec (ws := .code yL_cell cL_cell 2 (some .int) :: wsL_law0) B.pre
  have hown : s.vm.findClass RL = some m.cls := findClass_of_methodNamed B.named
  have hlocks := B.notSynchronized
  have hl := lv_entry ([.ref b, .int k]) (n := 2) (Nat.le_of_ble_eq_true rfl)
  rw [lg_entry_eq]
  generalize (lg_sl ([.ref b, .int k]) ++ List.replicate (2 - (lg_sl ([.ref b, .int k])).length) Slot.unset).toArray = ls at hl ⊢
  have hl : lv_has ls 2 [(0, .ref b), (1, .int k)] := hl
  have hS : va_S (fun _ => False) s.heap s.heap [] := va_S.rf
  have hbl : b < s.heap.size := by
    obtain ⟨scr, h1, -⟩ := hX
    exact (Array.getElem?_eq_some_iff.mp h1).1
  have hend : ∀ v, v = r → W p l e (headSpec (.code yL_cell cL_cell 2 (some .int) :: wsL_law0) { frames := 0, cells := 0, slots := 0, locals := 0 }).room s m ([Value.ref b, Value.int k]).toArray below meth c s.heap [] 0 0 (MQ below (vp_Si (fun r => m_cell xs9 L k = some r)) ([Value.ref b, Value.int k]).toArray s 0 0 (fun _ => False)) (F0 m 18 ls [.int v]) := by
    intro v hv
    subst hv
    exact W.iret (v := v) hx hb hr (fun t ht hW => ⟨v, rfl, hm, ht⟩) (fun q hq => by cases hq) dL_cell_18 hlocks
  unfold m_cell at hm
  refine lv_iload_n hx hb dL_cell_0 rfl (lv_at hl 1 rfl) ?_
  refine lv_aload_n hx hb dL_cell_1 rfl (lv_at hl 0 rfl) ?_
  refine va_slen hx hb hX hbl (fun h => h) hS dL_cell_2 ?_
  refine lv_icmp_ge (tgt := 12) hx hb dL_cell_3 (by decide) (fun c1 => ?_) (fun c1 => ?_)
  · replace hm := hm_t (c := nI L ≤ k) c1 hm
    cases hm
    refine lv_ldc (v := 790386105) hx hb hown (hts _ (List.mem_cons_of_mem _ tw_103)) dL_cell_12 ?_
    refine lv_iload_n hx hb dL_cell_14 rfl (lv_at hl 1 rfl) ?_
    refine lv_iconst (v := 3) hx hb dL_cell_15 (by decide) ?_
    refine lv_iadd hx hb dL_cell_16 ?_
    refine lv_imul hx hb dL_cell_17 ?_
    exact hend _ rfl
  · replace hm := hm_f (c := nI L ≤ k) c1 hm
    obtain ⟨b1, hm⟩ := oi_some hm
    cases hm
    refine lv_aload_n hx hb dL_cell_6 rfl (lv_at hl 0 rfl) ?_
    refine lv_iload_n hx hb dL_cell_7 rfl (lv_at hl 1 rfl) ?_
    refine va_sld hx hb hX hbl (fun h => h) hS b1 dL_cell_8 ?_
    refine lv_goto (tgt := 18) hx hb dL_cell_9 (by decide) ?_
    exact hend _ rfl
theorem v_cell {b L index : Nat} {xs9 : Nat → Int32} {k r : Int32} {rest : List Value} (C : VC X cc nL RL fr lo cl sl) (CX : LX X b L xs9) (hkc : kc ≤ cl) (hks : ks ≤ sl) (h : m_cell xs9 L k = some r) (w1 : Cond.methodLink RL index yL_cell ∈ wsL_law0) (hR : 1 ≤ fr ∧ 21 ≤ lo) (hW : (rest.map fun v => v.category).sum ≤ 8) (hst : Value.int k :: Value.ref b :: rest = st) (d : decode cc pc = .ok (.invokestatic index, 3)) (kk : QV G X nL Q (pc + 3) lv (.int r :: rest) w ty kc ks) : QV G X nL Q pc lv st w ty kc ks := by
  intro H locs ls hK hP hD hS hl
  obtain ⟨hx, hb, hml, hts, hown, hN, hA, -, hRm⟩ := C
  obtain ⟨hX, hbl, hbA⟩ := CX
  have hG : GoodIn wsL_law0 (va_wsS RL index yL_cell (.code yL_cell cL_cell 2 (some .int) :: wsL_law0)) := q_good tw_102 (by
    intro w hw
    rcases List.mem_cons.mp hw with q | hw; · rw [q]; exact w1
    rcases List.mem_cons.mp hw with q | hw; · rw [q]; exact tw_100
    rcases List.mem_cons.mp hw with q | hw; · rw [q]; exact tw_101
    cases hw) rfl
  have hb2 : H[b]? = (xs X).heap[b]? := hS.2.1 b hbl hbA
  have hr := va_runS (As := [.ref b, .int k]) (rest := rest) (g := F0 (xm X) pc ls st) (locs := locs) (p := xp X) (l := gl G) (e := xe X) (R := xR X) (s := xs X) (m := xm X) (args := xargs X) (below := xbelow X) (meth := xmeth X) (c := xc X) (H := H) (cells := kc) (slots := ks) ⟨hx, hb, hml, hown, hts⟩ (c_cell (l := gl G) (b := b) (L := L) (xs9 := xs9) (k := k)) (va_cwS 2 hts hG rfl rfl rfl (by decide +kernel) (by rw [hRm]; exact hR)) ⟨fun a U g mk q => by
      obtain ⟨q0, q1, q2⟩ := q
      exact ⟨q0, va_X.moved (u := U) (U := U.calling g mk a) (Vm.Alike.refl U.vm) q1, q2⟩, fun U hU hW9 => ⟨rfl, by rw [hU]; exact (va_X.moved hW9.alike hX).kept hb2, r, h⟩⟩ rfl rfl hl.1 hst.symm (lv_room hW) d ⟨by rw [hRm]; exact hkc, by rw [hRm]; exact hks⟩
  intro T hT X9
  obtain ⟨v9, st₀, t, T', L9, h0, X', hL, e1, e2, ⟨r9, hv, hpost, hheap⟩, stp⟩ := hr T hT X9
  cases hv
  have hr9 : r9 = r := Option.some.inj (hpost.symm.trans h)
  subst hr9
  have hTH : T'.heap = H := e1.trans (hheap.trans h0)
  obtain ⟨t2, a1, b1⟩ := kk T'.heap (locs ++ L9) ls hK (by rw [hTH]; exact hP) hD
    ⟨by rw [hTH]; exact hS.1, fun q h1 h2 => by rw [hTH]; exact hS.2.1 q h1 h2, fun q hq => by
      rcases List.mem_append.mp hq with h | h
      · exact hS.2.2 q h
      · exact absurd (hL q h) (fun z => z)⟩ hl T' rfl X'
  exact ⟨t2, stp t2 a1, b1⟩
end VL

