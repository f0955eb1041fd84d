/-! ===== making objects: worlds that grow ===== -/
def zrk (lev mc ms : Nat) : Room := { frames := lev + 1, cells := mc, slots := ms, locals := 48 * lev + 48 }
abbrev ZKG : Type := va_W → Nat → Nat → Nat → List (Nat × Value) → List Value → Prop
def zzero (t : Nat) : (Nat → Int32) ⊕ (Nat → Int64) ⊕ (Nat → UInt32) ⊕ (Nat → UInt64) ⊕ (Nat → Option Nat) := if t = 3 then .inr (.inl (fun _ => 0)) else .inl (fun _ => 0)
def zad (E : ZEv) (a : Nat → Nat) : ZEv := (E.1, E.2.1, a, E.2.2.2)
def zKW (E : ZEv) (R : Room) (Q : State → Prop) (A : Nat → Prop) (nL : Nat) (p : Program) (e : Env) (s : State) (m : MethodId) (args : Array Value) (below : List Frame) (meth : Method) (c : Code) : ZKG := fun ws cells slots pc L st => ∀ (H : Heap) (locs : List Loc) (ls : Array Slot), va_P E.2.1 vwCl ws H → va_D A ws → va_S A s.heap H locs → lv_has ls nL L → W p E.1 e R s m args below meth c H locs cells slots Q (F0 m pc ls st)
def zKu (E : ZEv) (G : ZKG) (R : Room) (Q : State → Prop) (A : Nat → Prop) (cc : ByteArray) (own : String) (nL : Nat) (name : String) (p : Program) (e : Env) (s : State) (m : MethodId) (args : Array Value) (below : List Frame) (meth : Method) (c : Code) : Prop :=
  G = zKW E R Q A nL p e s m args below meth c ∧ p.tables.exec = Jvm.exec ∧ c.code = cc ∧ c.maxLocals = nL ∧ s.vm.findClass own = some m.cls ∧ (∀ w ∈ wsL_law, w.before args s = true) ∧ va_K E.2.1 vwCl (ztys E) s ∧ zNW A E s ∧ meth.name = name ∧ (∀ q, s.heap.size ≤ q → A q)
section ZK
variable {E : ZEv} {G : ZKG} {R : Room} {Q : State → Prop} {A : Nat → Prop} {cc : ByteArray} {own : String} {nL : Nat} {name : String} {p : Program} {e : Env} {s : State} {m : MethodId} {args : Array Value} {below : List Frame} {meth : Method} {c : Code}
variable {ws ws' : va_W} {cells slots pc : Nat} {L : List (Nat × Value)} {st : List Value}
theorem zk_ws (h : zKu E G R Q A cc own nL name p e s m args below meth c) (e1 : ws = ws') (k : G ws' cells slots pc L st) : G ws cells slots pc L st := by rw [e1]; exact k
theorem zk_aload_n (h : zKu E G R Q A cc own nL name p e s m args below meth c) {j : Fin 4} {x : Nat} (d : decode cc pc = .ok (.aload_n j, 1)) (k0 : Nat) {i : Nat} (hi : (j : Nat) = i) (hl : L[k0]? = some (i, .ref x)) (k : G ws cells slots (pc + 1) L (.ref x :: st)) : G ws cells slots pc L st := by
  obtain ⟨rfl, hx, hb, hml, hown, hts, hK, hN, hnm, hA⟩ := h
  intro H locs ls hP hD hS hL
  exact lv_aload_n hx hb d hi (lv_at hL k0 hl) (k H locs ls hP hD hS hL)
theorem zk_aload (h : zKu E G R Q A cc own nL name p e s m args below meth c) {x i : Nat} (d : decode cc pc = .ok (.aload i, 2)) (k0 : Nat) (hl : L[k0]? = some (i, .ref x)) (k : G ws cells slots (pc + 2) L (.ref x :: st)) : G ws cells slots pc L st := by
  obtain ⟨rfl, hx, hb, hml, hown, hts, hK, hN, hnm, hA⟩ := h
  intro H locs ls hP hD hS hL
  exact lv_aload hx hb d (lv_at hL k0 hl) (k H locs ls hP hD hS hL)
theorem zk_iload_n (h : zKu E G R Q A cc own nL name p e s m args below meth c) {j : Fin 4} {x : Int32} (d : decode cc pc = .ok (.iload_n j, 1)) (k0 : Nat) {i : Nat} (hi : (j : Nat) = i) (hl : L[k0]? = some (i, .int x)) (k : G ws cells slots (pc + 1) L (.int x :: st)) : G ws cells slots pc L st := by
  obtain ⟨rfl, hx, hb, hml, hown, hts, hK, hN, hnm, hA⟩ := h
  intro H locs ls hP hD hS hL
  exact lv_iload_n hx hb d hi (lv_at hL k0 hl) (k H locs ls hP hD hS hL)
theorem zk_astore_n (h : zKu E G R Q A cc own nL name p e s m args below meth c) {j : Fin 4} {i x : Nat} {L' : List (Nat × Value)} (ks : List Nat) (d : decode cc pc = .ok (.astore_n j, 1)) (hi : (j : Nat) = i) (hn : i < nL) (hl : lv_pick ((i, Value.ref x) :: L.filter (fun q => !(q.1 == i) && !(q.1 + 1 == i && q.2.category == 2))) ks = L') (k : G ws cells slots (pc + 1) L' st) : G ws cells slots pc L (.ref x :: st) := by
  obtain ⟨rfl, hx, hb, hml, hown, hts, hK, hN, hnm, hA⟩ := h
  intro H locs ls hP hD hS hL
  exact lv_astore_n hx hb d hi hL hn rfl (fun ls' hl' => k H locs ls' hP hD hS (lv_sub hl' ks hl))
theorem zk_iconst (h : zKu E G R Q A cc own nL name p e s m args below meth c) {n : Int} {v : Int32} (d : decode cc pc = .ok (.iconst n, 1)) (hv : Int32.ofInt n = v) (k : G ws cells slots (pc + 1) L (.int v :: st)) : G ws cells slots pc L st := by
  obtain ⟨rfl, hx, hb, hml, hown, hts, hK, hN, hnm, hA⟩ := h
  intro H locs ls hP hD hS hL
  exact lv_iconst hx hb d hv (k H locs ls hP hD hS hL)
theorem zk_bipush (h : zKu E G R Q A cc own nL name p e s m args below meth c) {n : Int} {v : Int32} (d : decode cc pc = .ok (.bipush n, 2)) (hv : (Int8.ofInt n).toInt32 = v) (k : G ws cells slots (pc + 2) L (.int v :: st)) : G ws cells slots pc L st := by
  obtain ⟨rfl, hx, hb, hml, hown, hts, hK, hN, hnm, hA⟩ := h
  intro H locs ls hP hD hS hL
  exact lv_bipush hx hb d hv (k H locs ls hP hD hS hL)
theorem zk_sipush (h : zKu E G R Q A cc own nL name p e s m args below meth c) {n : Int} {v : Int32} (d : decode cc pc = .ok (.sipush n, 3)) (hv : (Int16.ofInt n).toInt32 = v) (k : G ws cells slots (pc + 3) L (.int v :: st)) : G ws cells slots pc L st := by
  obtain ⟨rfl, hx, hb, hml, hown, hts, hK, hN, hnm, hA⟩ := h
  intro H locs ls hP hD hS hL
  exact lv_sipush hx hb d hv (k H locs ls hP hD hS hL)
theorem zk_dup (h : zKu E G R Q A cc own nL name p e s m args below meth c) {a : Value} (d : decode cc pc = .ok (.dup, 1)) (ha : a.category = 1) (k : G ws cells slots (pc + 1) L (a :: a :: st)) : G ws cells slots pc L (a :: st) := by
  obtain ⟨rfl, hx, hb, hml, hown, hts, hK, hN, hnm, hA⟩ := h
  intro H locs ls hP hD hS hL
  exact lv_dup hx hb d ha (k H locs ls hP hD hS hL)
theorem zk_obj (h : zKu E G R Q A cc own nL name p e s m args below meth c) {idx a : Nat} (hw : ∀ w ∈ [Cond.methodLink own idx objectInit, .instanceMethod objectInit, .code objectInit ⟨#[0xb1]⟩ 1 none], w ∈ wsL_law) (hR : 1 ≤ R.frames ∧ 20 ≤ R.locals) (hc : (st.map fun v => v.category).sum ≤ 8) (d : decode cc pc = .ok (.invokespecial idx, 3)) (k : G ws cells slots (pc + 3) L st) : G ws cells slots pc L (.ref a :: st) := by
  obtain ⟨rfl, hx, hb, hml, hown, hts, hK, hN, hnm, hA⟩ := h
  intro H locs ls hP hD hS hL
  have hroom := lv_room (m := m) (pc := pc) (ls := ls) (rest := Value.ref a :: st) hc
  refine W.objInit hx hb hown (hts _ (hw _ (by simp))) (hts _ (hw _ (by simp))) (hts _ (hw _ (by simp))) rfl (by rw [hml]; exact hL.1) rfl d hR.1 (by omega) ?_
  exact k H locs ls hP hD hS hL
theorem zk_newa (h : zKu E G R Q A cc own nL name p e s m args below meth c) {at' : ArrayType} {t : Nat} {ty : FieldType} (hty : newarray.typeOf at' = ty) (ht : (ztys E)[t]? = some (E.2.2.2 t, ty)) (hw : Cond.arrayClass (newarray.typeOf at') ∈ wsL_law) {n : Int32} {N' : Nat} (hz : ∀ cA : ClassId, vp_cell cA (N', zzero t) = arrV cA N' (fun _ => defaultValue ty)) (hra : ∀ (U : State) (cA cB : ClassId), va_RA U cA ty → va_RA U cB ty → cA = cB) (hn : ¬ n < 0) (hN' : n.toNatClampNeg = N') (hby : N' * componentBytes ty ≤ 536870912) (hR : cells + 1 ≤ R.cells ∧ slots + N' ≤ R.slots) (d : decode cc pc = .ok (.newarray at', 2)) (k : ∀ q : Nat, G (ws ++ [(q, .inl (E.2.2.2 t, N', zzero t))]) (cells + 1) (slots + N') (pc + 2) L (.ref q :: st)) : G ws cells slots pc L (.int n :: st) := by
  obtain ⟨rfl, hx, hb, hml, hown, hts, hK, hN, hnm, hA⟩ := h
  intro H locs ls hP hD hS hL
  refine va_newa (atype := at') hx hb (hts _ hw) hty hK hP hD hS hA hz hn hN' hby hR.1 hR.2 d (fun q cA H1 hK1 hP1 hD1 hS1 => ?_)
  have e1 : cA = E.2.2.2 t := hra s cA (E.2.2.2 t) (hK1.2 4 (cA, ty) rfl).2 (hK.2 t _ ht).2
  subst e1
  exact k q H1 locs ls hP1 hD1 hS1 hL
theorem zk_new (h : zKu E G R Q A cc own nL name p e s m args below meth c) {C : String} {T : u_T} {N ci index : Nat} (hc : vwCl[ci]? = some (C, T, N)) (hin : ∀ w ∈ u_ws C T N, w ∈ wsL_law) (ty : Nat → FieldType) (hty : ∀ k, k < N → parseFieldDescriptor (T k).2.2.1 = some (ty k)) (hw : ∀ w ∈ [Cond.classLink own index C, .instantiable C N, .initialized C], w ∈ wsL_law) {fs : List Value} (hfs : ∀ j, j < N → defaultValue (ty j) = vp_V fs j) (hR : cells + 1 ≤ R.cells ∧ slots + N ≤ R.slots) (d : decode cc pc = .ok (.new index, 3)) (k : ∀ q : Nat, G (ws ++ [(q, .inr (ci, fs))]) (cells + 1) (slots + N) (pc + 3) L (.ref q :: st)) : G ws cells slots pc L st := by
  obtain ⟨rfl, hx, hb, hml, hown, hts, hK, hN, hnm, hA⟩ := h
  intro H locs ls hP hD hS hL
  exact va_new hx hb hts hin ty hty hown (hts _ (hw _ (by simp))) (hts _ (hw _ (by simp))) (hts _ (hw _ (by simp))) hK hP hD hS hA hc hfs hR.1 hR.2 d (fun q H1 hP1 hD1 hS1 => k q H1 locs ls hP1 hD1 hS1 hL)
/-- a final field, in a constructor -/
def zFF (own : String) (index ci k : Nat) (ty : FieldType) : Prop := ∃ (C : String) (T : u_T) (N : Nat) (ty0 : Nat → FieldType), vwCl[ci]? = some (C, T, N) ∧ k < N ∧ (∀ w ∈ u_ws C T N, w ∈ wsL_law) ∧ Cond.fieldLink own index C (T k).2.1 (T k).2.2.1 ∈ wsL_law ∧ (T k).1 = C ∧ (∀ k, k < N → parseFieldDescriptor (T k).2.2.1 = some (ty0 k)) ∧ (∀ a, a < N → ∀ b, b < N → a ≠ b → (T a).2.1 ≠ (T b).2.1) ∧ (T k).2.2.2 = true ∧ parseFieldDescriptor (T k).2.2.1 = some ty ∧ C = own
theorem zk_putF (h : zKu E G R Q A cc own nL "<init>" p e s m args below meth c) {index ci k q0 a : Nat} {ty : FieldType} {v : Value} {fs : List Value} (hf : zFF own index ci k ty) (he : ws[q0]? = some (a, .inr (ci, fs))) (hn : narrow ty v = v) (hfit : fits ty v = true) (hl : k < fs.length) (hws : ws.set q0 (a, .inr (ci, fs.set k v)) = ws') (d : decode cc pc = .ok (.putfield index, 3)) (kk : G ws' cells slots (pc + 3) L st) : G ws cells slots pc L (v :: .ref a :: st) := by
  obtain ⟨rfl, hx, hb, hml, hown, hts, hK, hN, hnm, hA⟩ := h
  intro H locs ls hP hD hS hL
  obtain ⟨C, T, N, ty0, hc, hkN, hin, hlink, hC, hty, hnd, hfin, hd, hCo⟩ := hf
  subst hws
  exact va_putF hx hb hts hin ty0 hty hnd hown hK hP hD hS q0 he hc k hkN (hts _ hlink) (fun x z => by rw [hC] at z; exact z) hfin hnm (hC.trans hCo) hd hn hfit hl d (fun H1 locs1 hP1 hD1 hS1 => kk H1 locs1 ls hP1 hD1 hS1 hL)
theorem zk_putV (h : zKu E G R Q A cc own nL name p e s m args below meth c) {index ci k q0 a : Nat} {ty : FieldType} {v : Value} {fs : List Value} (hf : zFP own index ci k ty) (he : ws[q0]? = some (a, .inr (ci, fs))) (hn : narrow ty v = v) (hfit : fits ty v = true) (hl : k < fs.length) (hws : ws.set q0 (a, .inr (ci, fs.set k v)) = ws') (d : decode cc pc = .ok (.putfield index, 3)) (kk : G ws' cells slots (pc + 3) L st) : G ws cells slots pc L (v :: .ref a :: st) := by
  obtain ⟨rfl, hx, hb, hml, hown, hts, hK, hN, hnm, hA⟩ := h
  intro H locs ls hP hD hS hL
  obtain ⟨C, T, N, ty0, hc, hkN, hin, hlink, hC, hty, hnd, hfin, hd⟩ := hf
  subst hws
  exact va_put hx hb hts hin ty0 hty hnd hown hK hP hD hS q0 he hc k hkN (hts _ hlink) (fun x z => by rw [hC] at z; exact z) hfin hd hn hfit hl d (fun H1 locs1 hP1 hD1 hS1 => kk H1 locs1 ls hP1 hD1 hS1 hL)
theorem zk_get (h : zKu E G R Q A cc own nL name p e s m args below meth c) {index ci k q0 a : Nat} {v : Value} {fs : List Value} (hf : zFO own index ci k) (he : ws[q0]? = some (a, .inr (ci, fs))) (hv : fs[k]? = some v) (d : decode cc pc = .ok (.getfield index, 3)) (kk : G ws cells slots (pc + 3) L (v :: st)) : G ws cells slots pc L (.ref a :: st) := by
  obtain ⟨rfl, hx, hb, hml, hown, hts, hK, hN, hnm, hA⟩ := h
  intro H locs ls hP hD hS hL
  obtain ⟨C, T, N, hc, hkN, hin, hlink, hC⟩ := hf
  exact va_get hx hb hts hin hown hK hP q0 he hc k hkN (hts _ hlink) (fun x z => by rw [hC] at z; exact z) hv d (kk H locs ls hP hD hS hL)
end ZK
/-- a constructor's contract: from the world w0 to one of the worlds w1 -/
def zCI {S : Type} (E : ZEv) (y : MethodName) (cc : ByteArray) (nL lev mc ms : Nat) (as : List Value) (w0 : va_W) (post : S → Prop) (w1 : S → va_W) : Prop := ∀ sz : Nat, Met E.1 y (Cond.code y cc nL none :: wsL_law) (zrk lev mc ms) (va_Pc as (fun U => U.heap.size = sz ∧ va_P E.2.1 vwCl w0 U.heap ∧ va_K E.2.1 vwCl (ztys E) U ∧ va_D (fun _ => True) w0 ∧ zNW (va_A w0 sz) E U)) (va_Qv post (fun u t => va_P E.2.1 vwCl (w1 u) t.heap ∧ va_D (va_A w0 sz) (w1 u)) (va_A w0 sz)) mc ms (va_A w0 sz)
theorem zci_of {S : Type} {E : ZEv} {y : MethodName} {cc : ByteArray} {nL lev mc ms : Nat} {as : List Value} {w0 : va_W} {post : S → Prop} {w1 : S → va_W} (hy : plainName y.cls = true) (hyn : y.name = "<init>") {L0 : List (Nat × Value)} (hL0 : lv_args 0 as = L0) (hsz : (lg_sl as).length ≤ nL) (hw : ∀ (G : ZKG) (Q : State → Prop) (A : Nat → Prop) (p : Program) (e : Env) (s : State) (m : MethodId) (args : Array Value) (below : List Frame) (meth : Method) (c : Code), zKu E G (zrk lev mc ms) Q A cc y.cls nL "<init>" p e s m args below meth c → (∀ (u : S) (pc : Nat) (L : List (Nat × Value)), post u → decode cc pc = .ok (.return_, 1) → G (w1 u) mc ms pc L []) → G w0 0 0 0 L0 []) : zCI E y cc nL lev mc ms as w0 post w1 := by
  intro sz
  refine Met.ofW (cc := cc) (maxL := nL) (ret := none) hy rfl ?_
  intro p e s m args below meth c s₁ B hml hv
  obtain ⟨rfl, hszz, hP, hK, hD0, hN⟩ := hv
  have hts := atoms_spec (ws := Cond.code y cc nL none :: wsL_law) B.pre
  have hin : meth.name = "<init>" := (name_of_methodNamed B.named B.method).1.trans hyn
  subst hszz
  have hD := hD0.self (sz := s.heap.size)
  have hlk := B.notSynchronized
  have hr := B.returns
  have hx := B.exec
  have hb := B.bytes
  have h := hw _ (MQ below (va_Qv post (fun u t => va_P E.2.1 vwCl (w1 u) t.heap ∧ va_D (va_A w0 s.heap.size) (w1 u)) (va_A w0 s.heap.size)) as.toArray s mc ms (va_A w0 s.heap.size)) (va_A w0 s.heap.size) p e s m as.toArray below meth c ⟨rfl, hx, hb, hml, findClass_of_methodNamed B.named, fun w h => hts w (List.mem_cons_of_mem _ h), hK, hN, hin, fun q h => Or.inr h⟩ (fun u pc L hp d => by
    intro H locs ls hP1 hD1 hS1 hL1
    exact W.vret hx hb hr (fun t ht hW => ⟨⟨u, rfl, hp, by rw [ht]; exact hP1, hD1⟩, hS1.F ht⟩) hS1.2.2 d hlk)
  rw [lg_entry_eq]
  exact h s.heap [] _ hP hD va_S.rf (by rw [← hL0]; exact lv_entry as hsz)
theorem zD' {ly : List ZEnt} {E : ZEv} {A : Nat → Prop} (hA : ∀ q, zAW ly E q → A q) (h : zInj ly E) (M : ZMem) : va_D A (zcls ly E M) := (zD h M).weaken (fun _ _ _ z => hA _ z)
section ZK2
variable {E : ZEv} {G : ZKG} {R : Room} {Q : State → Prop} {A : Nat → Prop} {cc : ByteArray} {own : String} {nL : Nat} {name : String} {p : Program} {e : Env} {s : State} {m : MethodId} {args : Array Value} {below : List Frame} {meth : Method} {c : Code}
variable {ws ws' : va_W} {cells slots pc : Nat} {L : List (Nat × Value)} {st stk : List Value}
theorem zk_callI {S : Type} (h : zKu E G R Q A cc own nL name p e s m args below meth c) {index n maxL lev mc ms : Nat} {y : MethodName} {bytes : ByteArray} {As : List Value} {b : Nat} {wc wr : va_W} {post : S → Prop} {w1 : S → va_W} (hM : zCI E y bytes maxL lev mc ms (.ref b :: As) wc post w1) (isC isR : List Nat) (hC : isC.map (fun i => ws[i]?) = wc.map some) (hCf : isC.filterMap (fun i => ws[i]?) = wc) (hRr : isR.map (fun i => ws[i]?) = wr.map some) (hnC : va_nd isC = true) (hnR : va_nd isR = true) (hdis : ∀ i ∈ isR, i ∉ isC) (hlink : (Cond.methodLink own index y ∈ wsL_law) ∨ (Cond.methodLinkNest own index y "UnreadSigns" ∈ znest)) (hw : ∀ w ∈ [Cond.initialized y.cls, .instanceMethod y, .code y bytes maxL none], w ∈ wsL_law) (hyn : y.name = "<init>") (hd : y.cls ≠ "java/lang/invoke/MethodHandle" ∧ y.cls ≠ "java/lang/invoke/VarHandle" ∧ (parseMethodDescriptor y.desc).map (fun d => d.parameters.length) = some n) (hR : (zrk lev mc ms).frames + 1 ≤ R.frames ∧ 8 + (maxL + 11) + (zrk lev mc ms).locals ≤ R.locals) (hn : As.length = n) (hst : As.reverse ++ .ref b :: st = stk) (hc : (st.map fun v => v.category).sum ≤ 8) (hrm : cells + mc ≤ R.cells ∧ slots + ms ≤ R.slots) (d : decode cc pc = .ok (.invokespecial index, 3)) (kk : ∀ u : S, post u → G (wr ++ w1 u) (cells + mc) (slots + ms) (pc + 3) L st) : G ws cells slots pc L stk := by
  subst hst
  obtain ⟨rfl, hx, hb, hml, hown, hts, hK, hN, hnm, hA⟩ := h
  intro H locs ls hP hD hS hL
  have hPc := hP.sub (ws' := wc) isC hCf
  have hDc := hD.sub (ws' := wc) isC hnC hC
  have hFc := va_free (wc := wc) hD hS hA isC hC
  have hT : GoodIn wsL_law (Cond.code y bytes maxL none :: wsL_law) := zGood_of (fun w hw' => by
    rcases List.mem_cons.mp hw' with h1 | h1
    · exact hw w (by simp [h1])
    · exact h1)
  have hpre : PreS s H (va_Pc (.ref b :: As) (fun U => U.heap.size = H.size ∧ va_P E.2.1 vwCl wc U.heap ∧ va_K E.2.1 vwCl (ztys E) U ∧ va_D (fun _ => True) wc ∧ zNW (va_A wc H.size) E U)) (.ref b :: As) := ⟨by
      intro a U g mk q
      obtain ⟨q0, q1, qP, qK, qD, qN⟩ := q
      exact ⟨q0, q1, qP, va_K.moved (u := U) (U := U.calling g mk a) (Vm.Alike.refl U.vm) qK, qD, zNW_same (s := U) rfl rfl qN⟩, fun U hU hW => ⟨rfl, by rw [hU], by rw [hU]; exact hPc, va_K.moved hW.alike hK, hDc.weaken (fun _ _ _ _ => trivial), zNW_narrow hFc (zNW_step hW (by rw [hU]; exact hS) hN)⟩⟩
  have hrun : va_Run p E.1 e R s m args below meth c H locs cells slots mc ms (F0 m pc ls (As.reverse ++ .ref b :: st)) st (va_Qv post (fun u t => va_P E.2.1 vwCl (w1 u) t.heap ∧ va_D (va_A wc H.size) (w1 u)) (va_A wc H.size) (Value.ref b :: As).toArray) (va_A wc H.size) := by
    rcases hlink with hl | hl
    · exact va_runI (As := As) (rest := st) ⟨hx, hb, hml, hown, hts⟩ (hM H.size) (cwI n hts hT rfl rfl rfl (hts _ (hw _ (by simp))) (hts _ hl) (hts _ (hw _ (by simp))) hyn hd hR) hpre rfl hn hL.1 rfl (lv_room hc) d hrm
    · exact va_runIN (As := As) (rest := st) (host := "UnreadSigns") ⟨hx, hb, hml, hown, hts⟩ (hM H.size) ⟨va_cnB n hts hT rfl rfl rfl (hN.1 _ hl) (hts _ (hw _ (by simp))) hd hR, hyn, hts _ (hw _ (by simp))⟩ hpre rfl hn hL.1 rfl (lv_room hc) d hrm
  refine va_callv hrun hS (fun q _ h => hFc q h) hFc (fun u t H1 locs1 ht hvm hw1 hB hz1 hk1 hS1 => ?_)
  obtain ⟨hP1, hD1⟩ := hB
  rw [ht] at hP1
  obtain ⟨hP2, hD2⟩ := va_join (wr := wr) (w1 := w1 u) hP hD isC isR hC hRr hnR hdis hk1 hFc hP1 hD1
  exact kk u hw1 H1 locs1 ls hP2 hD2 hS1 hL
/-- a method of a whole world, called in a constructor -/
theorem zk_callM (h : zKu E G R Q A cc own nL name p e s m args below meth c) {ly : List ZEnt} {ad : Nat → Nat} (had : ∀ k, 1000 ≤ k → ad k = E.2.2.1 k) {M : ZMem} (hws : ws = zcls ly (zad E ad) M) {index n maxL lev q ci : Nat} {y : MethodName} {bytes : ByteArray} {ret : Option FieldType} {As : List Value} {fl : List (Option Nat)} {Ret' : ZR} (hq : ly[q]? = some (.inr (ci, fl))) (hw : zCV own index ci y bytes maxL ret n) (hM : zCon ly (zad E ad) y bytes maxL ret lev (zrf (zad E ad) q :: As) M Ret') (hR : lev + 2 ≤ R.frames ∧ 48 * lev + 96 ≤ R.locals) (hn : As.length = n) (hst : As.reverse ++ zrf (zad E ad) q :: st = stk) (hc : (st.map fun v => v.category).sum ≤ 8) (hrm : cells ≤ R.cells ∧ slots ≤ R.slots) (d : decode cc pc = .ok (.invokevirtual index, 3)) (kk : ∀ (M' : ZMem) (v : Option Value), Ret' M' v → G (zcls ly (zad E ad) M') cells slots (pc + 3) L (v.toList ++ st)) : G ws cells slots pc L stk := by
  subst hst
  subst hws
  obtain ⟨rfl, hx, hb, hml, hown, hts, hK, hN, hnm, hA⟩ := h
  intro H locs ls hP hD hS hL
  obtain ⟨C, T, N, hvC, hws, hd, hmx⟩ := hw
  have hI : zInj ly (zad E ad) := by
    intro i j hi hj hij
    exact hD.1 i j _ _ (zcls_get (List.getElem?_eq_getElem hi)) (zcls_get (List.getElem?_eq_getElem hj)) hij
  have hAW : ∀ q, zAW ly (zad E ad) q → A q := by
    rintro q ⟨k, hk, rfl⟩
    exact hD.2 k _ (zcls_get (List.getElem?_eq_getElem hk))
  have hT : GoodIn wsL_law (wsV own index C y (Cond.code y bytes maxL ret :: wsL_law)) := zGood_of (fun w hw => by
    unfold wsV at hw
    rcases List.mem_append.mp hw with h1 | h1
    · exact hws w (by simp only [List.mem_cons, List.not_mem_nil, or_false] at h1 ⊢; rcases h1 with h1 | h1 | h1 | h1 <;> simp [h1])
    · rcases List.mem_cons.mp h1 with h1 | h1
      · exact hws w (by simp [h1])
      · exact h1)
  have e1 : (zrm lev).frames = lev + 1 := rfl
  have e2 : (zrm lev).locals = 48 * lev + 48 := rfl
  exact zrun_W (E := zad E ad) (va_runV (As := As) (rest := st) (C := C) (b := ad q) ⟨hx, hb, hml, hown, hts⟩ hM (cwV n hts hT rfl rfl rfl hd ⟨by rw [e1]; omega, by rw [e2]; omega⟩) ⟨zblind, va_recv hK hP hvC (zcls_get hq), fun U hU hW => ⟨rfl, by rw [hU]; exact hP, va_K.moved hW.alike hK, hI, zNW_ad (E := E) had (zNW_narrow hAW (zNW_step hW (by rw [hU]; exact hS) hN))⟩⟩ rfl hn hL.1 rfl (lv_room hc) d hrm) hS hAW (fun M' v t H1 locs1 _ _ h1 h2 _ _ h3 => kk M' v h1 H1 locs1 ls h2 (zD' hAW hI M') h3 hL)
end ZK2
