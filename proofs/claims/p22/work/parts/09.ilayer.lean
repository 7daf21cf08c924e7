theorem tw_8 : Cond.methodLink RX8 1 objectInit ∈ wsL_law0 := List.mem_of_getElem? (i := 8) (by decide +kernel)
theorem tw_9 : Cond.instanceMethod objectInit ∈ wsL_law0 := List.mem_of_getElem? (i := 9) (by decide +kernel)
theorem tw_10 : Cond.code objectInit ⟨#[0xb1]⟩ 1 none ∈ wsL_law0 := List.mem_of_getElem? (i := 10) (by decide +kernel)
theorem tw_11 : Cond.classLink RX8 7 RX2 ∈ wsL_law0 := List.mem_of_getElem? (i := 11) (by decide +kernel)
theorem tw_12 : Cond.instantiable RX2 7 ∈ wsL_law0 := List.mem_of_getElem? (i := 12) (by decide +kernel)
theorem tw_14 : Cond.classLink RX8 10 RX4 ∈ wsL_law0 := List.mem_of_getElem? (i := 14) (by decide +kernel)
theorem tw_15 : Cond.instantiable RX4 17 ∈ wsL_law0 := List.mem_of_getElem? (i := 15) (by decide +kernel)
theorem tw_17 : Cond.classLink RX8 15 RX3 ∈ wsL_law0 := List.mem_of_getElem? (i := 17) (by decide +kernel)
theorem tw_18 : Cond.instantiable RX3 15 ∈ wsL_law0 := List.mem_of_getElem? (i := 18) (by decide +kernel)
theorem tw_20 : Cond.classLink RX8 18 RX1 ∈ wsL_law0 := List.mem_of_getElem? (i := 20) (by decide +kernel)
theorem tw_21 : Cond.instantiable RX1 17 ∈ wsL_law0 := List.mem_of_getElem? (i := 21) (by decide +kernel)
theorem tw_23 : Cond.classLink RX8 23 RX7 ∈ wsL_law0 := List.mem_of_getElem? (i := 23) (by decide +kernel)
theorem tw_24 : Cond.classLink RX8 25 RX0 ∈ wsL_law0 := List.mem_of_getElem? (i := 24) (by decide +kernel)
theorem tw_25 : Cond.instantiable RX0 12 ∈ wsL_law0 := List.mem_of_getElem? (i := 25) (by decide +kernel)
theorem tw_33 : Cond.methodLink RX8 9 yX2_init ∈ wsL_law0 := List.mem_of_getElem? (i := 33) (by decide +kernel)
theorem tw_34 : Cond.instanceMethod yX2_init ∈ wsL_law0 := List.mem_of_getElem? (i := 34) (by decide +kernel)
theorem tw_35 : Cond.code yX2_init cX2_init 2 none ∈ wsL_law0 := List.mem_of_getElem? (i := 35) (by decide +kernel)
theorem tw_36 : Cond.methodLink RX2 3 objectInit ∈ wsL_law0 := List.mem_of_getElem? (i := 36) (by decide +kernel)
theorem tw_41 : Cond.classLink RX2 24 RX5 ∈ wsL_law0 := List.mem_of_getElem? (i := 41) (by decide +kernel)
theorem tw_42 : Cond.instantiable RX5 3 ∈ wsL_law0 := List.mem_of_getElem? (i := 42) (by decide +kernel)
theorem tw_46 : Cond.instanceMethod yX5_init ∈ wsL_law0 := List.mem_of_getElem? (i := 46) (by decide +kernel)
theorem tw_47 : Cond.code yX5_init cX5_init 1 none ∈ wsL_law0 := List.mem_of_getElem? (i := 47) (by decide +kernel)
theorem tw_48 : Cond.methodLink RX5 3 objectInit ∈ wsL_law0 := List.mem_of_getElem? (i := 48) (by decide +kernel)
theorem tw_51 : Cond.methodLink RX8 12 yX4_init ∈ wsL_law0 := List.mem_of_getElem? (i := 51) (by decide +kernel)
theorem tw_52 : Cond.instanceMethod yX4_init ∈ wsL_law0 := List.mem_of_getElem? (i := 52) (by decide +kernel)
theorem tw_53 : Cond.code yX4_init cX4_init 2 none ∈ wsL_law0 := List.mem_of_getElem? (i := 53) (by decide +kernel)
theorem tw_54 : Cond.classLink RX4 9 RX5 ∈ wsL_law0 := List.mem_of_getElem? (i := 54) (by decide +kernel)
theorem tw_60 : Cond.methodLink RX4 3 yX7_init ∈ wsL_law0 := List.mem_of_getElem? (i := 60) (by decide +kernel)
theorem tw_61 : Cond.instanceMethod yX7_init ∈ wsL_law0 := List.mem_of_getElem? (i := 61) (by decide +kernel)
theorem tw_63 : Cond.code yX7_init cX7_init 2 none ∈ wsL_law0 := List.mem_of_getElem? (i := 63) (by decide +kernel)
theorem tw_64 : Cond.methodLink RX7 3 objectInit ∈ wsL_law0 := List.mem_of_getElem? (i := 64) (by decide +kernel)
theorem tw_69 : Cond.methodLink RX8 17 yX3_init ∈ wsL_law0 := List.mem_of_getElem? (i := 69) (by decide +kernel)
theorem tw_70 : Cond.instanceMethod yX3_init ∈ wsL_law0 := List.mem_of_getElem? (i := 70) (by decide +kernel)
theorem tw_71 : Cond.code yX3_init cX3_init 2 none ∈ wsL_law0 := List.mem_of_getElem? (i := 71) (by decide +kernel)
theorem tw_73 : Cond.classLink RX3 15 RX5 ∈ wsL_law0 := List.mem_of_getElem? (i := 73) (by decide +kernel)
theorem tw_76 : Cond.methodLink RX3 3 yX6_init ∈ wsL_law0 := List.mem_of_getElem? (i := 76) (by decide +kernel)
theorem tw_77 : Cond.instanceMethod yX6_init ∈ wsL_law0 := List.mem_of_getElem? (i := 77) (by decide +kernel)
theorem tw_79 : Cond.code yX6_init cX6_init 2 none ∈ wsL_law0 := List.mem_of_getElem? (i := 79) (by decide +kernel)
theorem tw_81 : Cond.methodLink RX6 3 yX7_init ∈ wsL_law0 := List.mem_of_getElem? (i := 81) (by decide +kernel)
theorem tw_82 : Cond.methodLink RX8 20 yX1_init ∈ wsL_law0 := List.mem_of_getElem? (i := 82) (by decide +kernel)
theorem tw_83 : Cond.instanceMethod yX1_init ∈ wsL_law0 := List.mem_of_getElem? (i := 83) (by decide +kernel)
theorem tw_84 : Cond.code yX1_init cX1_init 2 none ∈ wsL_law0 := List.mem_of_getElem? (i := 84) (by decide +kernel)
theorem tw_88 : Cond.classLink RX1 22 RX5 ∈ wsL_law0 := List.mem_of_getElem? (i := 88) (by decide +kernel)
theorem tw_92 : Cond.methodLink RX1 3 yX6_init ∈ wsL_law0 := List.mem_of_getElem? (i := 92) (by decide +kernel)
theorem tw_93 : Cond.methodLink RX8 27 yX0_init ∈ wsL_law0 := List.mem_of_getElem? (i := 93) (by decide +kernel)
theorem tw_94 : Cond.instanceMethod yX0_init ∈ wsL_law0 := List.mem_of_getElem? (i := 94) (by decide +kernel)
theorem tw_95 : Cond.code yX0_init cX0_init 2 none ∈ wsL_law0 := List.mem_of_getElem? (i := 95) (by decide +kernel)
theorem tw_96 : Cond.classLink RX0 9 RX5 ∈ wsL_law0 := List.mem_of_getElem? (i := 96) (by decide +kernel)
theorem tw_98 : Cond.methodLink RX0 3 yX7_init ∈ wsL_law0 := List.mem_of_getElem? (i := 98) (by decide +kernel)
/-- a constructor's contract: from the cells w0 to what P says, mc cells and ms slots made; E: what else the start gives -/
def VMet (G : Gx) (y : MethodName) (cc : ByteArray) (nL fr lo mc ms : Nat) (av : List Value) (w0 : va_W) (P : va_W → List (ClassId × FieldType) → Prop) (E : State → Prop) : Prop :=
  ∀ sz : Nat, Met (gl G) y (.code y cc nL none :: wsL_law0) { frames := fr, cells := mc, slots := ms, locals := lo } (va_Pc av (fun U => U.heap.size = sz ∧ va_P (gD G) vwCl w0 U.heap ∧ va_K (gD G) vwCl [] U ∧ (∀ x ∈ NWs, va_Nw (.declares x) U) ∧ va_D (fun _ => True) w0 ∧ E U))
    (va_Qv (fun u : va_W × List (ClassId × FieldType) => P u.1 u.2) (fun u t => va_P (gD G) vwCl u.1 t.heap ∧ va_K (gD G) vwCl u.2 t ∧ va_D (va_A w0 sz) u.1) (va_A w0 sz)) mc ms (va_A w0 sz)
def VE (G : Gx) (X : Cx) (w0 : va_W) (P : va_W → List (ClassId × FieldType) → Prop) (mc ms : Nat) : State → Prop :=
  MQ (xbelow X) (va_Qv (fun u : va_W × List (ClassId × FieldType) => P u.1 u.2) (fun u t => va_P (gD G) vwCl u.1 t.heap ∧ va_K (gD G) vwCl u.2 t ∧ va_D (xA X) u.1) (xA X)) (xargs X) (xs X) mc ms (xA X)
/-- what the class Tessera's constructor asks of the tables beside the words -/
def NSTs : List (String × Nat) := [(RX0, 11), (RX1, 24), (RX2, 26), (RX3, 17), (RX4, 11)]
def EX (U : State) : Prop := va_AO "Tessera$Store" U ∧ (∀ C ∈ ["Tessera$Copying", "Tessera$Nursery", "Tessera$Marking", "Tessera$Counting"], va_Nw (.castable C "Tessera$Store") U) ∧ ∀ q ∈ NSTs, va_Nw (.methodLinkNest q.1 q.2 yX5_init "Tessera") U
section IL
variable {G : Gx} {X : Cx} {cc : ByteArray} {nL : Nat} {own : String} {fr lo cl sl : Nat} {Q : State → Prop} {pc : Nat} {lv : List (Nat × Value)} {st : List Value} {w : va_W} {ty : List (ClassId × FieldType)} {kc ks : Nat}
theorem EX_warm {s U : State} (hW : s.WarmedH U.vm) (h : EX s) : EX U := ⟨h.1.moved hW.alike, fun C hC => va_Nw.warmC hW (h.2.1 C hC), fun q hq => va_Nw.warmM hW (h.2.2 q hq)⟩
theorem EX_blind {a : Array Value} {U : State} {g : JFrame} {mk : MethodId} (h : EX U) : EX (U.calling g mk a) := ⟨h.1.moved (u := U) (U := U.calling g mk a) (Vm.Alike.refl U.vm), fun C hC => va_Nw.same rfl (u := U) (U := U.calling g mk a) rfl (h.2.1 C hC), fun q hq => va_Nw.same rfl (u := U) (U := U.calling g mk a) rfl (h.2.2 q hq)⟩
theorem v_entry {y : MethodName} {av : List Value} {w0 : va_W} {P : va_W → List (ClassId × FieldType) → Prop} {E : State → Prop} {mc ms : Nat} (hy : plainName y.cls = true) (hown : y.cls = own ∧ y.name = "<init>") (hn : (lg_sl av).length ≤ nL)
    (body : ∀ X : Cx, VC X cc nL own fr lo mc ms → (xmeth X).name = "<init>" → (xmeth X).sig.returnType = none → E (xs X) → QV G X nL (VE G X w0 P mc ms) 0 (lv_args 0 av) [] w0 [] 0 0) : VMet G y cc nL fr lo mc ms av w0 P E := by
  intro sz
  refine Met.ofW (cc := cc) (maxL := nL) (ret := none) hy rfl ?_
  intro p e s m args below meth c s₁ B hml hv
  obtain ⟨rfl, hsz, hP, hK, hN, hD, hE⟩ := hv
  have hts := atoms_spec (ws := .code y cc nL none :: wsL_law0) B.pre
  have hl := lv_entry av (n := nL) hn
  rw [lg_entry_eq]
  subst hsz
  have h := body (p, e, (headSpec (.code y cc nL none :: wsL_law0) { frames := fr, cells := mc, slots := ms, locals := lo }).room, s, m, av.toArray, below, meth, c, va_A w0 s.heap.size)
    ⟨B.exec, B.bytes, hml, fun w hw => hts w (List.mem_cons_of_mem _ hw), by rw [← hown.1]; exact findClass_of_methodNamed B.named, hN, fun q hq => Or.inr hq, B.notSynchronized, rfl⟩ (by rw [← hown.2]; exact (name_of_methodNamed B.named B.method).1) B.returns hE
  exact h s.heap [] _ hK hP hD.self va_S.rf hl
theorem v_ret {w0 : va_W} {P : va_W → List (ClassId × FieldType) → Prop} (C : VC X cc nL own fr lo cl sl) (hret : (xmeth X).sig.returnType = none) (hp : P w ty) (d : decode cc pc = .ok (.return_, 1)) : QV G X nL (VE G X w0 P kc ks) pc lv [] w ty kc ks := by
  intro H locs ls hK hP hD hS hl
  obtain ⟨hx, hb, -, -, -, hN, -, hlk, -⟩ := C
  exact W.vret hx hb hret (fun t ht hW => ⟨⟨(w, ty), rfl, hp, by rw [ht]; exact hP, va_K.moved hW.alike hK, hD⟩, hS.F ht⟩) hS.2.2 d hlk
theorem v_objInit {q0 idx : Nat} (C : VC X cc nL own fr lo cl sl) (w1 : Cond.methodLink own idx objectInit ∈ wsL_law0) (w2 : Cond.instanceMethod objectInit ∈ wsL_law0) (w3 : Cond.code objectInit ⟨#[0xb1]⟩ 1 none ∈ wsL_law0) (hfr : 1 ≤ fr) (hlo : (st.map fun v => v.category).sum + 12 ≤ lo) (d : decode cc pc = .ok (.invokespecial idx, 3)) (kk : QV G X nL Q (pc + 3) lv st w ty kc ks) : QV G X nL Q pc lv (.ref q0 :: st) w ty kc ks := by
  intro H locs ls hK hP hD hS hl
  obtain ⟨hx, hb, hml, hts, hown, hN, hA, hlk, hR⟩ := C
  exact W.objInit hx hb hown (hts _ w1) (hts _ w2) (hts _ w3) rfl (by rw [hml]; exact hl.1) rfl d (by rw [hR]; exact hfr) (by rw [hR]; show 2 * 0 + _ + 12 ≤ lo; omega) (kk H locs ls hK hP hD hS hl)
theorem v_new {ci index N : Nat} {fs : List Value} {Cn : String} {T : u_T} (C : VC X cc nL own fr lo cl sl) (hin : ∀ w ∈ u_ws Cn T N, w ∈ wsL_law0) (ty0 : Nat → FieldType) (hty : ∀ k, k < N → parseFieldDescriptor (T k).2.2.1 = some (ty0 k)) (w1 : Cond.classLink own index Cn ∈ wsL_law0) (w2 : Cond.instantiable Cn N ∈ wsL_law0) (w3 : Cond.initialized Cn ∈ wsL_law0) (hc : vwCl[ci]? = some (Cn, T, N)) (hfs : ∀ j, j < N → defaultValue (ty0 j) = vp_V fs j) (hcells : kc + 1 ≤ cl) (hslots : ks + N ≤ sl) (d : decode cc pc = .ok (.new index, 3)) (kk : ∀ q : Nat, QV G X nL Q (pc + 3) lv (.ref q :: st) (w ++ [(q, .inr (ci, fs))]) ty (kc + 1) (ks + N)) : QV G X nL Q pc lv st w ty kc ks := by
  intro H locs ls hK hP hD hS hl
  obtain ⟨hx, hb, hml, hts, hown, hN, hA, hlk, hR⟩ := C
  exact va_new (ci := ci) (fs := fs) (C := Cn) (T := T) (N := N) hx hb hts hin ty0 hty hown (hts _ w1) (hts _ w2) (hts _ w3) hK hP hD hS hA hc hfs (by rw [hR]; exact hcells) (by rw [hR]; exact hslots) d (fun q H1 hP1 hD1 hS1 => kk q H1 locs ls hK hP1 hD1 hS1 hl)
theorem v_newQ {n : Int32} {N' index : Nat} (C : VC X cc nL own fr lo cl sl) (w1 : Cond.classLink own index "Tessera$Store" ∈ wsL_law0) (ho : va_AO "Tessera$Store" (xs X)) (hn : ¬ n < 0) (hN : n.toNatClampNeg = N') (hbytes : N' * 4 ≤ 536870912) (hcells : kc + 1 ≤ cl) (hslots : ks + N' ≤ sl) (d : decode cc pc = .ok (.anewarray index, 3)) (kk : ∀ (q : Nat) (cA : ClassId), QV G X nL Q (pc + 3) lv (.ref q :: st) (w ++ [(q, .inl (cA, N', .inr (.inr (.inr (.inr (fun _ => none))))))]) (ty ++ [(cA, .object "Tessera$Store")]) (kc + 1) (ks + N')) : QV G X nL Q pc lv (.int n :: st) w ty kc ks := by
  intro H locs ls hK hP hD hS hl
  obtain ⟨hx, hb, hml, hts, hown, hNw, hA, hlk, hR⟩ := C
  exact va_newq hx hb hown (hts _ w1) ho hK hP hD hS hA hn hN hbytes (by rw [hR]; exact hcells) (by rw [hR]; exact hslots) d (fun q cA H1 hK1 hP1 hD1 hS1 => kk q cA H1 locs ls hK1 hP1 hD1 hS1 hl)
theorem v_astq {q0 v n ci : Nat} {fs : List Value} {cA : ClassId} {i : Int32} {f : Nat → Option Nat} {r : vw_C} {w' : va_W} (C : VC X cc nL own fr lo cl sl) (p t0 qk : Nat) (he : w[p]? = some (q0, .inl (cA, n, .inr (.inr (.inr (.inr f)))))) (ht : ty[t0]? = some (cA, .object "Tessera$Store")) (hv : w[qk]? = some (v, .inr (ci, fs))) (hc : vwCl[ci]? = some r) (hcast : va_Nw (.castable r.1 "Tessera$Store") (xs X)) (hin : vp_in i n) (hw' : w.set p (q0, .inl (cA, n, .inr (.inr (.inr (.inr (va_up f i.toNatClampNeg (some v))))))) = w') (d : decode cc pc = .ok (.aastore, 1)) (kk : QV G X nL Q (pc + 1) lv st w' ty kc ks) : QV G X nL Q pc lv (.ref v :: .int i :: .ref q0 :: st) w ty kc ks := by
  intro H locs ls hK hP hD hS hl
  obtain ⟨c3, c4, h3, h4, hasg⟩ := Cond.castable_spec hcast
  exact va_astqM C.1 C.2.1 hK hP hD hS p t0 he ht (va_rAny hK hP hv hc (fun comp c0 k1 k2 => by
    have e1 : c0 = c3 := Option.some.inj (k2.symm.trans h3)
    have e2 : comp = c4 := Option.some.inj (k1.symm.trans h4)
    rw [e1, e2]; exact hasg)) hin d (fun H1 locs1 hP1 hD1 hS1 => kk H1 locs1 ls hK (by rw [← hw']; exact hP1) (by rw [← hw']; exact hD1) hS1 hl)
theorem v_callI {index b ny fy loy mc ms nA : Nat} {As rest : List Value} {y : MethodName} {cy : ByteArray} {wc wr : va_W} {P : va_W → List (ClassId × FieldType) → Prop} (C : VC X cc nL own fr lo cl sl) (hkc : kc + mc ≤ cl) (hks : ks + ms ≤ sl) (hM : VMet G y cy ny fy loy mc ms (.ref b :: As) wc P EX) (hE : EX (xs X)) (isC isR : List Nat) (hnC : va_nd isC = true) (hC : isC.map (fun i => w[i]?) = wc.map some) (hR : isR.map (fun i => w[i]?) = wr.map some) (hn : va_nd isR = true) (hdis : ∀ i ∈ isR, i ∉ isC)
    (w1 : Cond.methodLink own index y ∈ wsL_law0) (w2 : Cond.instanceMethod y ∈ wsL_law0) (w4 : Cond.initialized y.cls ∈ wsL_law0) (w5 : Cond.code y cy ny none ∈ wsL_law0) (hy1 : y.name = "<init>") (hd : y.cls ≠ "java/lang/invoke/MethodHandle" ∧ y.cls ≠ "java/lang/invoke/VarHandle" ∧ (parseMethodDescriptor y.desc).map (fun d => d.parameters.length) = some nA) (hA9 : As.length = nA) (hR2 : fy + 1 ≤ fr ∧ 8 + (ny + 11) + loy ≤ lo) (hW : (rest.map fun v => v.category).sum ≤ 8) (hst : As.reverse ++ .ref b :: rest = st) (d : decode cc pc = .ok (.invokespecial index, 3))
    (kk : ∀ (w' : va_W) (ty' : List (ClassId × FieldType)), P w' ty' → QV G X nL Q (pc + 3) lv rest (wr ++ w') (ty ++ ty') (kc + mc) (ks + ms)) : QV G X nL Q pc lv st w ty kc ks := by
  intro H locs ls hK hP hD hS hl
  subst hA9
  obtain ⟨hx, hb, hml, hts, hown, hN, hA, -, hRm⟩ := C
  have hG : GoodIn wsL_law0 (.code y cy ny none :: wsL_law0) := q_good w5 (ws := []) (fun w h => by cases h) rfl
  have hPc := va_P_sub hP isC hC
  have hDc := va_D_sub hD isC hnC hC
  have hFc := va_free (wc := wc) hD hS hA isC hC
  have hK0 := hK.sub (tys' := []) [] rfl
  rw [← hst]
  refine va_callv (S := va_W × List (ClassId × FieldType)) (va_runI (As := As) (rest := rest) ⟨hx, hb, hml, hown, hts⟩ (hM H.size) (cwI As.length hts hG rfl rfl rfl (hts _ w4) (hts _ w1) (hts _ w2) hy1 hd (by rw [hRm]; exact hR2)) ⟨fun a U g mk q => by
      obtain ⟨q0, q1, qP, qK, qN, qD, qE⟩ := q
      exact ⟨q0, q1, qP, va_K.moved (u := U) (U := U.calling g mk a) (Vm.Alike.refl U.vm) qK, fun x hx => va_Nw.same rfl (u := U) (U := U.calling g mk a) rfl (qN x hx), qD, EX_blind qE⟩, fun U hU hW9 => ⟨rfl, by rw [hU], by rw [hU]; exact hPc, va_K.moved hW9.alike hK0, q_Nw hW9 hN, hDc.weaken (fun _ _ _ _ => trivial), EX_warm hW9 hE⟩⟩ rfl rfl hl.1 rfl (lv_room hW) d ⟨by rw [hRm]; exact hkc, by rw [hRm]; exact hks⟩) hS (fun q _ h => hFc q h) hFc (fun u t H1 locs1 ht hvm hw hB hz1 hk1 hS1 => ?_)
  obtain ⟨hP1, hK1, hD1⟩ := hB
  rw [ht] at hP1
  have hK1 := va_K.moved hvm.symm hK1
  obtain ⟨hP2, hD2⟩ := va_join hP hD isC isR hC hR hn hdis hk1 hFc hP1 hD1
  exact kk u.1 u.2 hw H1 locs1 ls (hK.app hK1) hP2 hD2 hS1 hl
theorem v_callIN {index b ny fy loy mc ms nA : Nat} {As rest : List Value} {y : MethodName} {cy : ByteArray} {wc wr : va_W} {P : va_W → List (ClassId × FieldType) → Prop} (C : VC X cc nL own fr lo cl sl) (hkc : kc + mc ≤ cl) (hks : ks + ms ≤ sl) (hM : VMet G y cy ny fy loy mc ms (.ref b :: As) wc P EX) (hE : EX (xs X)) (isC isR : List Nat) (hnC : va_nd isC = true) (hC : isC.map (fun i => w[i]?) = wc.map some) (hR : isR.map (fun i => w[i]?) = wr.map some) (hn : va_nd isR = true) (hdis : ∀ i ∈ isR, i ∉ isC)
    {host : String} (w1 : va_Nw (.methodLinkNest own index y host) (xs X)) (w2 : Cond.instanceMethod y ∈ wsL_law0) (w4 : Cond.initialized y.cls ∈ wsL_law0) (w5 : Cond.code y cy ny none ∈ wsL_law0) (hy1 : y.name = "<init>") (hd : y.cls ≠ "java/lang/invoke/MethodHandle" ∧ y.cls ≠ "java/lang/invoke/VarHandle" ∧ (parseMethodDescriptor y.desc).map (fun d => d.parameters.length) = some nA) (hA9 : As.length = nA) (hR2 : fy + 1 ≤ fr ∧ 8 + (ny + 11) + loy ≤ lo) (hW : (rest.map fun v => v.category).sum ≤ 8) (hst : As.reverse ++ .ref b :: rest = st) (d : decode cc pc = .ok (.invokespecial index, 3))
    (kk : ∀ (w' : va_W) (ty' : List (ClassId × FieldType)), P w' ty' → QV G X nL Q (pc + 3) lv rest (wr ++ w') (ty ++ ty') (kc + mc) (ks + ms)) : QV G X nL Q pc lv st w ty kc ks := by
  intro H locs ls hK hP hD hS hl
  subst hA9
  obtain ⟨hx, hb, hml, hts, hown, hN, hA, -, hRm⟩ := C
  have hG : GoodIn wsL_law0 (.code y cy ny none :: wsL_law0) := q_good w5 (ws := []) (fun w h => by cases h) rfl
  have hPc := va_P_sub hP isC hC
  have hDc := va_D_sub hD isC hnC hC
  have hFc := va_free (wc := wc) hD hS hA isC hC
  have hK0 := hK.sub (tys' := []) [] rfl
  rw [← hst]
  refine va_callv (S := va_W × List (ClassId × FieldType)) (va_runIN (As := As) (rest := rest) ⟨hx, hb, hml, hown, hts⟩ (hM H.size) ⟨va_cnB As.length hts hG rfl rfl rfl w1 (hts _ w4) hd (by rw [hRm]; exact hR2), hy1, hts _ w2⟩ ⟨fun a U g mk q => by
      obtain ⟨q0, q1, qP, qK, qN, qD, qE⟩ := q
      exact ⟨q0, q1, qP, va_K.moved (u := U) (U := U.calling g mk a) (Vm.Alike.refl U.vm) qK, fun x hx => va_Nw.same rfl (u := U) (U := U.calling g mk a) rfl (qN x hx), qD, EX_blind qE⟩, fun U hU hW9 => ⟨rfl, by rw [hU], by rw [hU]; exact hPc, va_K.moved hW9.alike hK0, q_Nw hW9 hN, hDc.weaken (fun _ _ _ _ => trivial), EX_warm hW9 hE⟩⟩ rfl rfl hl.1 rfl (lv_room hW) d ⟨by rw [hRm]; exact hkc, by rw [hRm]; exact hks⟩) hS (fun q _ h => hFc q h) hFc (fun u t H1 locs1 ht hvm hw hB hz1 hk1 hS1 => ?_)
  obtain ⟨hP1, hK1, hD1⟩ := hB
  rw [ht] at hP1
  have hK1 := va_K.moved hvm.symm hK1
  obtain ⟨hP2, hD2⟩ := va_join hP hD isC isR hC hR hn hdis hk1 hFc hP1 hD1
  exact kk u.1 u.2 hw H1 locs1 ls (hK.app hK1) hP2 hD2 hS1 hl
end IL
theorem df_0 : ∀ j, j < 12 → defaultValue (tyX0 j) = vp_V [.null, .int 0, .int 0, .int 0, .int 0, .int 0, .int 0, .null, .null, .null, .int 0, .int 0] j := by
  intro j hj
  match j, hj with
  | 0, _ => rfl
  | 1, _ => rfl
  | 2, _ => rfl
  | 3, _ => rfl
  | 4, _ => rfl
  | 5, _ => rfl
  | 6, _ => rfl
  | 7, _ => rfl
  | 8, _ => rfl
  | 9, _ => rfl
  | 10, _ => rfl
  | 11, _ => rfl
  | k + 12, h => omega
theorem df_1 : ∀ j, j < 17 → defaultValue (tyX1 j) = vp_V [.null, .null, .int 0, .int 0, .int 0, .int 0, .int 0, .int 0, .null, .null, .int 0, .null, .null, .null, .null, .null, .null] j := by
  intro j hj
  match j, hj with
  | 0, _ => rfl
  | 1, _ => rfl
  | 2, _ => rfl
  | 3, _ => rfl
  | 4, _ => rfl
  | 5, _ => rfl
  | 6, _ => rfl
  | 7, _ => rfl
  | 8, _ => rfl
  | 9, _ => rfl
  | 10, _ => rfl
  | 11, _ => rfl
  | 12, _ => rfl
  | 13, _ => rfl
  | 14, _ => rfl
  | 15, _ => rfl
  | 16, _ => rfl
  | k + 17, h => omega
theorem df_2 : ∀ j, j < 7 → defaultValue (tyX2 j) = vp_V [.null, .null, .null, .null, .null, .null, .int 0] j := by
  intro j hj
  match j, hj with
  | 0, _ => rfl
  | 1, _ => rfl
  | 2, _ => rfl
  | 3, _ => rfl
  | 4, _ => rfl
  | 5, _ => rfl
  | 6, _ => rfl
  | k + 7, h => omega
theorem df_3 : ∀ j, j < 15 → defaultValue (tyX3 j) = vp_V [.null, .null, .int 0, .int 0, .int 0, .int 0, .int 0, .int 0, .null, .null, .int 0, .null, .null, .null, .int 0] j := by
  intro j hj
  match j, hj with
  | 0, _ => rfl
  | 1, _ => rfl
  | 2, _ => rfl
  | 3, _ => rfl
  | 4, _ => rfl
  | 5, _ => rfl
  | 6, _ => rfl
  | 7, _ => rfl
  | 8, _ => rfl
  | 9, _ => rfl
  | 10, _ => rfl
  | 11, _ => rfl
  | 12, _ => rfl
  | 13, _ => rfl
  | 14, _ => rfl
  | k + 15, h => omega
theorem df_4 : ∀ j, j < 17 → defaultValue (tyX4 j) = vp_V [.null, .int 0, .int 0, .int 0, .int 0, .int 0, .int 0, .null, .null, .int 0, .int 0, .null, .null, .null, .null, .int 0, .int 0] j := by
  intro j hj
  match j, hj with
  | 0, _ => rfl
  | 1, _ => rfl
  | 2, _ => rfl
  | 3, _ => rfl
  | 4, _ => rfl
  | 5, _ => rfl
  | 6, _ => rfl
  | 7, _ => rfl
  | 8, _ => rfl
  | 9, _ => rfl
  | 10, _ => rfl
  | 11, _ => rfl
  | 12, _ => rfl
  | 13, _ => rfl
  | 14, _ => rfl
  | 15, _ => rfl
  | 16, _ => rfl
  | k + 17, h => omega
theorem df_5 : ∀ j, j < 3 → defaultValue (tyX5 j) = vp_V [.null, .null, .int 0] j := by
  intro j hj
  match j, hj with
  | 0, _ => rfl
  | 1, _ => rfl
  | 2, _ => rfl
  | k + 3, h => omega
theorem df_8 : ∀ j, j < 6 → defaultValue (tyX8 j) = vp_V [.null, .null, .null, .null, .null, .int 0] j := by
  intro j hj
  match j, hj with
  | 0, _ => rfl
  | 1, _ => rfl
  | 2, _ => rfl
  | 3, _ => rfl
  | 4, _ => rfl
  | 5, _ => rfl
  | k + 6, h => omega
