/-! THE CLAIM OUT OF ONE WALK OF THE LAW'S BODY. Your part is whole_start (and what it stands on); all else here is the same for every law, but numbers. -/
def R_law : String := "UnreadSignsLaw"
def lw_P (b : Addr) (xs : List Int32) (args : Array Value) (s : State) : Prop := args = #[.ref b] ∧ s.IntsAt b xs ∧ xs.length ≤ 3072 ∧ (Jvm.Cond.and given_1 narrow_1).before args s = true
def lw_Q (_ : Array Value) (s : State) (o : Outcome) (t : State) : Prop := o = .returned (some (.int 1)) ∧ Framed s o t [] 600000 7302250
def lw_Z (below : List Frame) (a : Array Value) (s : State) : State → Prop := fun t => ∃ o, t.status = .running ∧ Ended t below o ∧ lw_Q a s o t
/-- the law's own end, with 1 on the stack, nothing written that was there before, its room as the claim has it -/
theorem lw_ret {p : Program} {l : Launch} {e : Env} {s : State} {m : MethodId} {below : List Frame} {meth : Method} {c : Code} {b : Nat} (hx : p.tables.exec = Jvm.exec) (hb : c.code = code) (hr : meth.sig.returnType = ret) (hlocks : meth.locks = false) {pc : Nat} {H : Heap} {ls : Array Slot} (hdg : decode code pc = .ok (.ireturn, 1)) : W p l e room_1 s m #[Value.ref b] below meth c H [] 600000 7302250 (lw_Z below #[Value.ref b] s) (F0 m pc ls [.int 1]) := by
  intro T hT X
  obtain ⟨fs, hret, hrun, hended, hW, hframe⟩ := X.leave (v := some (.int 1)) (hlocks := hlocks) (fun h => by rw [hr] at h; cases h)
  have hmeth' : T.vm.method? m = some meth := X.method'
  refine ⟨T.setFrames fs, ?_, .returned (some (.int 1)), hrun, hended, rfl, ⟨_, rfl⟩, hW, hframe⟩
  jvm_step X.here [X.here.top, hx, hb, hdg, hmeth', hr, ret, narrow_b1]
  (try refine ⟨rfl, ?_⟩); (try refine ⟨rfl, ?_⟩)
  first | (intro acts; rw [hret _ acts rfl rfl rfl]) | rw [hret _ _ rfl rfl rfl]
  exact Steps.refl _
/-- what holds at the law's entry: the machine, the code, the tables' words (any of lw_tbl by 'hts w (by decide +kernel)'), the script of L ints xs at the cell b, what the Statement gives of the start (any of its parts by flat_of_before) -/
def lw_At (p : Program) (s : State) (m : MethodId) (meth : Method) (c : Code) (b L : Nat) (xs : Nat → Int32) : Prop :=
  p.tables.exec = Jvm.exec ∧ c.code = code ∧ meth.sig.returnType = ret ∧ c.maxLocals = 4 ∧ s.vm.findClass R_law = some m.cls ∧ (∀ w ∈ lw_tbl, w.before #[Value.ref b] s = true) ∧ va_X b L xs s s.heap ∧ b < s.heap.size ∧ meth.locks = false ∧ (Jvm.Cond.and given_1 narrow_1).before #[Value.ref b] s = true
theorem zisB_0 : zisB 0 = true := by decide
theorem zisB_1 : zisB 1 = true := by decide
def zA0 (s : State) : Nat → Prop := fun q => s.heap.size ≤ q
abbrev ZLG : Type := ZMem → ZMem → Nat → List (Nat × Value) → List Value → Prop
def zLW (E : ZEv) (a1 a2 : Nat → Nat) (cells slots : Nat) (p : Program) (e : Env) (s : State) (m : MethodId) (b : Nat) (below : List Frame) (meth : Method) (c : Code) : ZLG := fun M1 M2 pc L st => ∀ (H : Heap) (locs : List Loc) (ls : Array Slot), va_P E.2.1 vwCl (zcls lyC (zad E a1) M1) H → va_P E.2.1 vwCl (zcls lyR (zad E a2) M2) H → va_S (zA0 s) s.heap H locs → lv_has ls 4 L → W p E.1 e room_1 s m #[Value.ref b] below meth c H locs cells slots (lw_Z below #[Value.ref b] s) (F0 m pc ls st)
def zLu (E : ZEv) (a1 a2 : Nat → Nat) (G : ZLG) (b N : Nat) (xs : Nat → Int32) (cells slots : Nat) : Prop :=
  ∃ (p : Program) (e : Env) (s : State) (m : MethodId) (below : List Frame) (meth : Method) (c : Code), G = zLW E a1 a2 cells slots p e s m b below meth c ∧ (cells ≤ 600000 ∧ slots ≤ 7302250) ∧ p.tables.exec = Jvm.exec ∧ c.code = code ∧ c.maxLocals = 4 ∧ s.vm.findClass R_law = some m.cls ∧ (∀ w ∈ wsL_law, w.before #[Value.ref b] s = true) ∧ va_K E.2.1 vwCl (ztys E) s ∧ (zNW (zA0 s) E s ∧ (∀ k, 1000 ≤ k → a1 k = E.2.2.1 k) ∧ ∀ k, 1000 ≤ k → a2 k = E.2.2.1 k) ∧ meth.sig.returnType = ret ∧ meth.locks = false ∧ va_X b N xs s s.heap ∧ b < s.heap.size ∧ zInj lyC (zad E a1) ∧ zInj lyR (zad E a2) ∧ (∀ q, zAW lyC (zad E a1) q → s.heap.size ≤ q) ∧ (∀ q, zAW lyR (zad E a2) q → s.heap.size ≤ q) ∧ (∀ q, zAW lyC (zad E a1) q → zAW lyR (zad E a2) q → False)
section ZL
variable {E : ZEv} {a1 a2 : Nat → Nat} {G : ZLG} {b N : Nat} {xs : Nat → Int32} {cells slots : Nat} {M1 M2 : ZMem} {pc : Nat} {L : List (Nat × Value)} {st stk : List Value}
theorem zl_aload_n (h : zLu E a1 a2 G b N xs cells slots) {j : Fin 4} {x : Nat} (d : decode code pc = .ok (.aload_n j, 1)) (k0 : Nat) {i : Nat} (hi : (j : Nat) = i) (hl : L[k0]? = some (i, .ref x)) (k : G M1 M2 (pc + 1) L (.ref x :: st)) : G M1 M2 pc L (st) := by
  obtain ⟨p, e, s, m, below, meth, c, rfl, hcs, hx, hb, hml, hown, hts, hK, hN, hr, hlk, hX, hbl, hI1, hI2, hA1, hA2, hdj⟩ := h
  intro H locs ls hP1 hP2 hS hL
  exact lv_aload_n hx hb d hi (lv_at hL k0 hl) (k H locs ls hP1 hP2 hS hL)
theorem zl_iload_n (h : zLu E a1 a2 G b N xs cells slots) {j : Fin 4} {x : Int32} (d : decode code pc = .ok (.iload_n j, 1)) (k0 : Nat) {i : Nat} (hi : (j : Nat) = i) (hl : L[k0]? = some (i, .int x)) (k : G M1 M2 (pc + 1) L (.int x :: st)) : G M1 M2 pc L (st) := by
  obtain ⟨p, e, s, m, below, meth, c, rfl, hcs, hx, hb, hml, hown, hts, hK, hN, hr, hlk, hX, hbl, hI1, hI2, hA1, hA2, hdj⟩ := h
  intro H locs ls hP1 hP2 hS hL
  exact lv_iload_n hx hb d hi (lv_at hL k0 hl) (k H locs ls hP1 hP2 hS hL)
theorem zl_iconst (h : zLu E a1 a2 G b N xs cells slots) {n : Int} {v : Int32} (d : decode code pc = .ok (.iconst n, 1)) (hv : Int32.ofInt n = v) (k : G M1 M2 (pc + 1) L (.int v :: st)) : G M1 M2 pc L (st) := by
  obtain ⟨p, e, s, m, below, meth, c, rfl, hcs, hx, hb, hml, hown, hts, hK, hN, hr, hlk, hX, hbl, hI1, hI2, hA1, hA2, hdj⟩ := h
  intro H locs ls hP1 hP2 hS hL
  exact lv_iconst hx hb d hv (k H locs ls hP1 hP2 hS hL)
theorem zl_bipush (h : zLu E a1 a2 G b N xs cells slots) {n : Int} {v : Int32} (d : decode code pc = .ok (.bipush n, 2)) (hv : (Int8.ofInt n).toInt32 = v) (k : G M1 M2 (pc + 2) L (.int v :: st)) : G M1 M2 pc L (st) := by
  obtain ⟨p, e, s, m, below, meth, c, rfl, hcs, hx, hb, hml, hown, hts, hK, hN, hr, hlk, hX, hbl, hI1, hI2, hA1, hA2, hdj⟩ := h
  intro H locs ls hP1 hP2 hS hL
  exact lv_bipush hx hb d hv (k H locs ls hP1 hP2 hS hL)
theorem zl_iadd (h : zLu E a1 a2 G b N xs cells slots) {x y : Int32} (d : decode code pc = .ok (.iadd, 1))  (k : G M1 M2 (pc + 1) L (.int (x + y) :: st)) : G M1 M2 pc L (.int y :: .int x :: st) := by
  obtain ⟨p, e, s, m, below, meth, c, rfl, hcs, hx, hb, hml, hown, hts, hK, hN, hr, hlk, hX, hbl, hI1, hI2, hA1, hA2, hdj⟩ := h
  intro H locs ls hP1 hP2 hS hL
  exact lv_iadd hx hb d (k H locs ls hP1 hP2 hS hL)
theorem zl_isub (h : zLu E a1 a2 G b N xs cells slots) {x y : Int32} (d : decode code pc = .ok (.isub, 1))  (k : G M1 M2 (pc + 1) L (.int (x - y) :: st)) : G M1 M2 pc L (.int y :: .int x :: st) := by
  obtain ⟨p, e, s, m, below, meth, c, rfl, hcs, hx, hb, hml, hown, hts, hK, hN, hr, hlk, hX, hbl, hI1, hI2, hA1, hA2, hdj⟩ := h
  intro H locs ls hP1 hP2 hS hL
  exact lv_isub hx hb d (k H locs ls hP1 hP2 hS hL)
theorem zl_iand (h : zLu E a1 a2 G b N xs cells slots) {x y : Int32} (d : decode code pc = .ok (.iand, 1))  (k : G M1 M2 (pc + 1) L (.int (x &&& y) :: st)) : G M1 M2 pc L (.int y :: .int x :: st) := by
  obtain ⟨p, e, s, m, below, meth, c, rfl, hcs, hx, hb, hml, hown, hts, hK, hN, hr, hlk, hX, hbl, hI1, hI2, hA1, hA2, hdj⟩ := h
  intro H locs ls hP1 hP2 hS hL
  exact lv_iand hx hb d (k H locs ls hP1 hP2 hS hL)
theorem zl_sld (h : zLu E a1 a2 G b N xs cells slots) {i : Int32} (hi : vp_in i N) (d : decode code pc = .ok (.iaload, 1)) (k : G M1 M2 (pc + 1) L (.int (xs i.toNatClampNeg) :: st)) : G M1 M2 pc L (.int i :: .ref b :: st) := by
  obtain ⟨p, e, s, m, below, meth, c, rfl, hcs, hx, hb, hml, hown, hts, hK, hN, hr, hlk, hX, hbl, hI1, hI2, hA1, hA2, hdj⟩ := h
  intro H locs ls hP1 hP2 hS hL
  exact va_sld hx hb hX hbl (show ¬ zA0 s b from Nat.not_le.mpr hbl) hS hi d (k H locs ls hP1 hP2 hS hL)
theorem zl_slen (h : zLu E a1 a2 G b N xs cells slots) (d : decode code pc = .ok (.arraylength, 1)) (k : G M1 M2 (pc + 1) L (.int (Int32.ofNat N) :: st)) : G M1 M2 pc L (.ref b :: st) := by
  obtain ⟨p, e, s, m, below, meth, c, rfl, hcs, hx, hb, hml, hown, hts, hK, hN, hr, hlk, hX, hbl, hI1, hI2, hA1, hA2, hdj⟩ := h
  intro H locs ls hP1 hP2 hS hL
  exact va_slen hx hb hX hbl (show ¬ zA0 s b from Nat.not_le.mpr hbl) hS d (k H locs ls hP1 hP2 hS hL)
theorem zl_icmp_eq (h : zLu E a1 a2 G b N xs cells slots) {x y : Int32} {off : Int} {tgt : Nat} (d : decode code pc = .ok (.if_icmp .eq off, 3)) (ht : (pc : Int) + off = (tgt : Int)) (kt : x = y → G M1 M2 tgt L st) (kf : ¬ (x = y) → G M1 M2 (pc + 3) L st) : G M1 M2 pc L (.int y :: .int x :: st) := by
  obtain ⟨p, e, s, m, below, meth, c, rfl, hcs, hx, hb, hml, hown, hts, hK, hN, hr, hlk, hX, hbl, hI1, hI2, hA1, hA2, hdj⟩ := h
  intro H locs ls hP1 hP2 hS hL
  exact lv_icmp_eq hx hb d ht (fun z => kt z H locs ls hP1 hP2 hS hL) (fun z => kf z H locs ls hP1 hP2 hS hL)
theorem zl_icmp_gt (h : zLu E a1 a2 G b N xs cells slots) {x y : Int32} {off : Int} {tgt : Nat} (d : decode code pc = .ok (.if_icmp .gt off, 3)) (ht : (pc : Int) + off = (tgt : Int)) (kt : y < x → G M1 M2 tgt L st) (kf : ¬ (y < x) → G M1 M2 (pc + 3) L st) : G M1 M2 pc L (.int y :: .int x :: st) := by
  obtain ⟨p, e, s, m, below, meth, c, rfl, hcs, hx, hb, hml, hown, hts, hK, hN, hr, hlk, hX, hbl, hI1, hI2, hA1, hA2, hdj⟩ := h
  intro H locs ls hP1 hP2 hS hL
  exact lv_icmp_gt hx hb d ht (fun z => kt z H locs ls hP1 hP2 hS hL) (fun z => kf z H locs ls hP1 hP2 hS hL)
theorem zl_if_eq (h : zLu E a1 a2 G b N xs cells slots) {x : Int32} {off : Int} {tgt : Nat} (d : decode code pc = .ok (.ifCond .eq off, 3)) (ht : (pc : Int) + off = (tgt : Int)) (kt : x = 0 → G M1 M2 tgt L st) (kf : ¬ x = 0 → G M1 M2 (pc + 3) L st) : G M1 M2 pc L (.int x :: st) := by
  obtain ⟨p, e, s, m, below, meth, c, rfl, hcs, hx, hb, hml, hown, hts, hK, hN, hr, hlk, hX, hbl, hI1, hI2, hA1, hA2, hdj⟩ := h
  intro H locs ls hP1 hP2 hS hL
  exact lv_if_eq hx hb d ht (fun z => kt z H locs ls hP1 hP2 hS hL) (fun z => kf z H locs ls hP1 hP2 hS hL)
theorem zl_goto (h : zLu E a1 a2 G b N xs cells slots) {off : Int} {tgt : Nat} (d : decode code pc = .ok (.goto off, 3)) (ht : (pc : Int) + off = (tgt : Int)) (k : G M1 M2 tgt L st) : G M1 M2 pc L st := by
  obtain ⟨p, e, s, m, below, meth, c, rfl, hcs, hx, hb, hml, hown, hts, hK, hN, hr, hlk, hX, hbl, hI1, hI2, hA1, hA2, hdj⟩ := h
  intro H locs ls hP1 hP2 hS hL
  exact lv_goto hx hb d ht (k H locs ls hP1 hP2 hS hL)
theorem zl_iinc (h : zLu E a1 a2 G b N xs cells slots) {i : Nat} {n : Int} {x v : Int32} {L' : List (Nat × Value)} (k0 : Nat) (ks : List Nat) (d : decode code pc = .ok (.iinc i n, 3)) (hk : L[k0]? = some (i, .int x)) (hv : x + Int32.ofInt n = v) (hn : i < 4) (hl : lv_pick ((i, Value.int v) :: L.filter (fun q => !(q.1 == i) && !(q.1 + 1 == i && q.2.category == 2))) ks = L') (k : G M1 M2 (pc + 3) L' st) : G M1 M2 pc L st := by
  obtain ⟨p, e, s, m, below, meth, c, rfl, hcs, hx, hb, hml, hown, hts, hK, hN, hr, hlk, hX, hbl, hI1, hI2, hA1, hA2, hdj⟩ := h
  intro H locs ls hP1 hP2 hS hL
  exact lv_iinc hx hb d hL hk hv hn rfl (fun ls' hl' => k H locs ls' hP1 hP2 hS (lv_sub hl' ks hl))
theorem zl_istore_n (h : zLu E a1 a2 G b N xs cells slots) {j : Fin 4} {i : Nat} {x : Int32} {L' : List (Nat × Value)} (ks : List Nat) (d : decode code pc = .ok (.istore_n j, 1)) (hi : (j : Nat) = i) (hn : i < 4) (hl : lv_pick ((i, Value.int x) :: L.filter (fun q => !(q.1 == i) && !(q.1 + 1 == i && q.2.category == 2))) ks = L') (k : G M1 M2 (pc + 1) L' st) : G M1 M2 pc L (.int x :: st) := by
  obtain ⟨p, e, s, m, below, meth, c, rfl, hcs, hx, hb, hml, hown, hts, hK, hN, hr, hlk, hX, hbl, hI1, hI2, hA1, hA2, hdj⟩ := h
  intro H locs ls hP1 hP2 hS hL
  exact lv_istore_n hx hb d hi hL hn rfl (fun ls' hl' => k H locs ls' hP1 hP2 hS (lv_sub hl' ks hl))
theorem zl_tabIn (h : zLu E a1 a2 G b N xs cells slots) {dflt lo hi : Int} {offs : Array Int} {len : Nat} {x : Int32} {off : Int} {tgt : Nat} (d : decode code pc = .ok (.tableswitch dflt lo hi offs, len)) (h1 : ¬ x.toInt < lo) (h2 : ¬ hi < x.toInt) (ho : offs[(x.toInt - lo).toNat]? = some off) (ht : (pc : Int) + off = (tgt : Int)) (k : G M1 M2 tgt L st) : G M1 M2 pc L (.int x :: st) := by
  obtain ⟨p, e, s, m, below, meth, c, rfl, hcs, hx, hb, hml, hown, hts, hK, hN, hr, hlk, hX, hbl, hI1, hI2, hA1, hA2, hdj⟩ := h
  intro H locs ls hP1 hP2 hS hL
  exact lv_tableIn hx hb d h1 h2 ho ht (k H locs ls hP1 hP2 hS hL)
theorem zl_tabOut (h : zLu E a1 a2 G b N xs cells slots) {dflt lo hi : Int} {offs : Array Int} {len : Nat} {x : Int32} {tgt : Nat} (d : decode code pc = .ok (.tableswitch dflt lo hi offs, len)) (h1 : x.toInt < lo ∨ hi < x.toInt) (ht : (pc : Int) + dflt = (tgt : Int)) (k : G M1 M2 tgt L st) : G M1 M2 pc L (.int x :: st) := by
  obtain ⟨p, e, s, m, below, meth, c, rfl, hcs, hx, hb, hml, hown, hts, hK, hN, hr, hlk, hX, hbl, hI1, hI2, hA1, hA2, hdj⟩ := h
  intro H locs ls hP1 hP2 hS hL
  exact lv_tableOut hx hb d h1 ht (k H locs ls hP1 hP2 hS hL)
theorem zl_ret (h : zLu E a1 a2 G b N xs cells slots) (d : decode code pc = .ok (.ireturn, 1)) : G M1 M2 pc L [.int 1] := by
  obtain ⟨p, e, s, m, below, meth, c, rfl, hcs, hx, hb, hml, hown, hts, hK, hN, hr, hlk, hX, hbl, hI1, hI2, hA1, hA2, hdj⟩ := h
  intro H locs ls hP1 hP2 hS hL
  refine va_forget (fun q hq => hS.2.2 q hq) ?_
  exact W.widen (k := 600000) (n := 7302250) hcs.1 hcs.2 (lw_ret hx hb hr hlk d)
theorem zl_call1 (h : zLu E a1 a2 G b N xs cells slots) {index ci n maxL lev : Nat} {fl : List (Option Nat)} {y : MethodName} {bytes : ByteArray} {rt : Option FieldType} {As : List Value} {Ret' : ZR} (hq : lyC[0]? = some (.inr (ci, fl))) (hw : zCV R_law index ci y bytes maxL rt n) (hM : zCon lyC (zad E a1) y bytes maxL rt lev (zrf (zad E a1) 0 :: As) M1 Ret') (hlev : lev ≤ 100) (hn : As.length = n) (hst : As.reverse ++ zrf (zad E a1) 0 :: st = stk) (hc : (st.map fun v => v.category).sum ≤ 8) (d : decode code pc = .ok (.invokevirtual index, 3)) (kk : ∀ (M' : ZMem) (v : Option Value), Ret' M' v → G M' M2 (pc + 3) L (v.toList ++ st)) : G M1 M2 pc L stk := by
  subst hst
  obtain ⟨p, e, s, m, below, meth, c, rfl, hcs, hx, hb, hml, hown, hts, hK, hN, hr, hlk, hX, hbl, hI1, hI2, hA1, hA2, hdj⟩ := h
  intro H locs ls hP1 hP2 hS hL
  obtain ⟨C, T, N', hvC, hws, hd, hmx⟩ := hw
  have hT : GoodIn wsL_law (wsV R_law index C y (Cond.code y bytes maxL rt :: wsL_law)) := zGood_of (fun w hw => by
    unfold wsV at hw
    rcases List.mem_append.mp hw with h1 | h1
    · exact hws w (by simp only [List.mem_cons, List.not_mem_nil, or_false] at h1 ⊢; rcases h1 with h1 | h1 | h1 | h1 <;> simp [h1])
    · rcases List.mem_cons.mp h1 with h1 | h1
      · exact hws w (by simp [h1])
      · exact h1)
  have e1 : (zrm lev).frames = lev + 1 := rfl
  have e2 : (zrm lev).locals = 48 * lev + 48 := rfl
  have e3 : room_1.frames = 2048 := rfl
  have e4 : room_1.locals = 84000 := rfl
  refine zrun_W (E := zad E a1) (ly := lyC) (va_runV (As := As) (rest := st) (C := C) (b := a1 0) ⟨hx, hb, hml, hown, hts⟩ hM (cwV n hts hT rfl rfl rfl hd ⟨by rw [e1, e3]; omega, by rw [e2, e4]; omega⟩) ⟨zblind, va_recv hK hP1 hvC (zcls_get hq), fun U hU hW => ⟨rfl, by rw [hU]; exact hP1, va_K.moved hW.alike hK, hI1, zNW_ad (E := E) hN.2.1 (zNW_narrow hA1 (zNW_step hW (by rw [hU]; exact hS) hN.1))⟩⟩ rfl hn hL.1 rfl (lv_room hc) d ⟨hcs.1, hcs.2⟩) hS hA1 (fun M' v t H1 locs1 _ _ h1 h2 _ h5 h3 => ?_)
  have hPo : va_P E.2.1 vwCl (zcls lyR (zad E a2) M2) H1 := by
    intro k q hq'
    have hk : k < lyR.length := by
      have := (List.getElem?_eq_some_iff.mp hq').1
      rwa [zcls_len] at this
    have e5 := zcls_get (E := zad E a2) (M := M2) (List.getElem?_eq_getElem hk)
    have e6 : q = ((a2 k, zrnE (zad E a2) M2 k lyR[k]) : Nat × va_E) := Option.some.inj (hq'.symm.trans e5)
    have h6 := hP2 k q hq'
    refine h6.kept (h5 q.1 h6.lt ?_)
    rw [e6]
    exact (fun z => hdj _ z ⟨k, hk, rfl⟩)
  exact kk M' v h1 H1 locs1 ls h2 hPo h3 hL
theorem zl_call1p (h : zLu E a1 a2 G b N xs cells slots) {index ci n maxL lev : Nat} {fl : List (Option Nat)} {y : MethodName} {bytes : ByteArray} {rt : Option FieldType} {As : List Value} {K : Int32 → Prop} (hq : lyC[0]? = some (.inr (ci, fl))) (hw : zCV R_law index ci y bytes maxL rt n) (hM : zCon lyC (zad E a1) y bytes maxL rt lev (zrf (zad E a1) 0 :: As) M1 (zRp M1 K)) (hlev : lev ≤ 100) (hn : As.length = n) (hst : As.reverse ++ zrf (zad E a1) 0 :: st = stk) (hc : (st.map fun v => v.category).sum ≤ 8) (d : decode code pc = .ok (.invokevirtual index, 3)) (kk : ∀ r : Int32, K r → G M1 M2 (pc + 3) L (.int r :: st)) : G M1 M2 pc L stk := zl_call1 h hq hw hM hlev hn hst hc d (fun M' v hr => by obtain ⟨rfl, r, rfl, hr⟩ := hr; exact kk r hr)
theorem zl_call1m (h : zLu E a1 a2 G b N xs cells slots) {index ci n maxL lev : Nat} {fl : List (Option Nat)} {y : MethodName} {bytes : ByteArray} {rt : Option FieldType} {As : List Value} {K : ZMem × Int32 → Prop} (hq : lyC[0]? = some (.inr (ci, fl))) (hw : zCV R_law index ci y bytes maxL rt n) (hM : zCon lyC (zad E a1) y bytes maxL rt lev (zrf (zad E a1) 0 :: As) M1 (zRm K)) (hlev : lev ≤ 100) (hn : As.length = n) (hst : As.reverse ++ zrf (zad E a1) 0 :: st = stk) (hc : (st.map fun v => v.category).sum ≤ 8) (d : decode code pc = .ok (.invokevirtual index, 3)) (kk : ∀ r : ZMem × Int32, K r → G r.1 M2 (pc + 3) L (.int r.2 :: st)) : G M1 M2 pc L stk := zl_call1 h hq hw hM hlev hn hst hc d (fun M' v hr => by obtain ⟨r, rfl, hr⟩ := hr; exact kk (M', r) hr)
theorem zl_call2 (h : zLu E a1 a2 G b N xs cells slots) {index ci n maxL lev : Nat} {fl : List (Option Nat)} {y : MethodName} {bytes : ByteArray} {rt : Option FieldType} {As : List Value} {Ret' : ZR} (hq : lyR[0]? = some (.inr (ci, fl))) (hw : zCV R_law index ci y bytes maxL rt n) (hM : zCon lyR (zad E a2) y bytes maxL rt lev (zrf (zad E a2) 0 :: As) M2 Ret') (hlev : lev ≤ 100) (hn : As.length = n) (hst : As.reverse ++ zrf (zad E a2) 0 :: st = stk) (hc : (st.map fun v => v.category).sum ≤ 8) (d : decode code pc = .ok (.invokevirtual index, 3)) (kk : ∀ (M' : ZMem) (v : Option Value), Ret' M' v → G M1 M' (pc + 3) L (v.toList ++ st)) : G M1 M2 pc L stk := by
  subst hst
  obtain ⟨p, e, s, m, below, meth, c, rfl, hcs, hx, hb, hml, hown, hts, hK, hN, hr, hlk, hX, hbl, hI1, hI2, hA1, hA2, hdj⟩ := h
  intro H locs ls hP1 hP2 hS hL
  obtain ⟨C, T, N', hvC, hws, hd, hmx⟩ := hw
  have hT : GoodIn wsL_law (wsV R_law index C y (Cond.code y bytes maxL rt :: wsL_law)) := zGood_of (fun w hw => by
    unfold wsV at hw
    rcases List.mem_append.mp hw with h1 | h1
    · exact hws w (by simp only [List.mem_cons, List.not_mem_nil, or_false] at h1 ⊢; rcases h1 with h1 | h1 | h1 | h1 <;> simp [h1])
    · rcases List.mem_cons.mp h1 with h1 | h1
      · exact hws w (by simp [h1])
      · exact h1)
  have e1 : (zrm lev).frames = lev + 1 := rfl
  have e2 : (zrm lev).locals = 48 * lev + 48 := rfl
  have e3 : room_1.frames = 2048 := rfl
  have e4 : room_1.locals = 84000 := rfl
  refine zrun_W (E := zad E a2) (ly := lyR) (va_runV (As := As) (rest := st) (C := C) (b := a2 0) ⟨hx, hb, hml, hown, hts⟩ hM (cwV n hts hT rfl rfl rfl hd ⟨by rw [e1, e3]; omega, by rw [e2, e4]; omega⟩) ⟨zblind, va_recv hK hP2 hvC (zcls_get hq), fun U hU hW => ⟨rfl, by rw [hU]; exact hP2, va_K.moved hW.alike hK, hI2, zNW_ad (E := E) hN.2.2 (zNW_narrow hA2 (zNW_step hW (by rw [hU]; exact hS) hN.1))⟩⟩ rfl hn hL.1 rfl (lv_room hc) d ⟨hcs.1, hcs.2⟩) hS hA2 (fun M' v t H1 locs1 _ _ h1 h2 _ h5 h3 => ?_)
  have hPo : va_P E.2.1 vwCl (zcls lyC (zad E a1) M1) H1 := by
    intro k q hq'
    have hk : k < lyC.length := by
      have := (List.getElem?_eq_some_iff.mp hq').1
      rwa [zcls_len] at this
    have e5 := zcls_get (E := zad E a1) (M := M1) (List.getElem?_eq_getElem hk)
    have e6 : q = ((a1 k, zrnE (zad E a1) M1 k lyC[k]) : Nat × va_E) := Option.some.inj (hq'.symm.trans e5)
    have h6 := hP1 k q hq'
    refine h6.kept (h5 q.1 h6.lt ?_)
    rw [e6]
    exact (fun z => hdj _ ⟨k, hk, rfl⟩ z)
  exact kk M' v h1 H1 locs1 ls hPo h2 h3 hL
theorem zl_call2p (h : zLu E a1 a2 G b N xs cells slots) {index ci n maxL lev : Nat} {fl : List (Option Nat)} {y : MethodName} {bytes : ByteArray} {rt : Option FieldType} {As : List Value} {K : Int32 → Prop} (hq : lyR[0]? = some (.inr (ci, fl))) (hw : zCV R_law index ci y bytes maxL rt n) (hM : zCon lyR (zad E a2) y bytes maxL rt lev (zrf (zad E a2) 0 :: As) M2 (zRp M2 K)) (hlev : lev ≤ 100) (hn : As.length = n) (hst : As.reverse ++ zrf (zad E a2) 0 :: st = stk) (hc : (st.map fun v => v.category).sum ≤ 8) (d : decode code pc = .ok (.invokevirtual index, 3)) (kk : ∀ r : Int32, K r → G M1 M2 (pc + 3) L (.int r :: st)) : G M1 M2 pc L stk := zl_call2 h hq hw hM hlev hn hst hc d (fun M' v hr => by obtain ⟨rfl, r, rfl, hr⟩ := hr; exact kk r hr)
theorem zl_call2m (h : zLu E a1 a2 G b N xs cells slots) {index ci n maxL lev : Nat} {fl : List (Option Nat)} {y : MethodName} {bytes : ByteArray} {rt : Option FieldType} {As : List Value} {K : ZMem × Int32 → Prop} (hq : lyR[0]? = some (.inr (ci, fl))) (hw : zCV R_law index ci y bytes maxL rt n) (hM : zCon lyR (zad E a2) y bytes maxL rt lev (zrf (zad E a2) 0 :: As) M2 (zRm K)) (hlev : lev ≤ 100) (hn : As.length = n) (hst : As.reverse ++ zrf (zad E a2) 0 :: st = stk) (hc : (st.map fun v => v.category).sum ≤ 8) (d : decode code pc = .ok (.invokevirtual index, 3)) (kk : ∀ r : ZMem × Int32, K r → G M1 r.1 (pc + 3) L (.int r.2 :: st)) : G M1 M2 pc L stk := zl_call2 h hq hw hM hlev hn hst hc d (fun M' v hr => by obtain ⟨r, rfl, hr⟩ := hr; exact kk (M', r) hr)
end ZL
theorem dL_law_0 : decode cL_law 0 = .ok (.new 7, 3) := by decide +kernel
theorem dL_law_3 : decode cL_law 3 = .ok (.dup, 1) := by decide +kernel
theorem dL_law_4 : decode cL_law 4 = .ok (.invokespecial 9, 3) := by decide +kernel
theorem dL_law_7 : decode cL_law 7 = .ok (.astore_n 1, 1) := by decide +kernel
theorem dL_law_8 : decode cL_law 8 = .ok (.new 10, 3) := by decide +kernel
theorem dL_law_11 : decode cL_law 11 = .ok (.dup, 1) := by decide +kernel
theorem dL_law_12 : decode cL_law 12 = .ok (.invokespecial 12, 3) := by decide +kernel
theorem dL_law_15 : decode cL_law 15 = .ok (.astore_n 2, 1) := by decide +kernel
theorem dL_law_16 : decode cL_law 16 = .ok (.iconst 0, 1) := by decide +kernel
theorem dL_law_17 : decode cL_law 17 = .ok (.istore_n 3, 1) := by decide +kernel
theorem dL_law_18 : decode cL_law 18 = .ok (.iload_n 3, 1) := by decide +kernel
theorem dL_law_19 : decode cL_law 19 = .ok (.aload_n 0, 1) := by decide +kernel
theorem dL_law_20 : decode cL_law 20 = .ok (.arraylength, 1) := by decide +kernel
theorem dL_law_21 : decode cL_law 21 = .ok (.bipush 6, 2) := by decide +kernel
theorem dL_law_23 : decode cL_law 23 = .ok (.isub, 1) := by decide +kernel
theorem dL_law_24 : decode cL_law 24 = .ok (.if_icmp .gt 1276, 3) := by decide +kernel
theorem dL_law_27 : decode cL_law 27 = .ok (.aload_n 0, 1) := by decide +kernel
theorem dL_law_28 : decode cL_law 28 = .ok (.iload_n 3, 1) := by decide +kernel
theorem dL_law_29 : decode cL_law 29 = .ok (.iaload, 1) := by decide +kernel
theorem dL_law_30 : decode cL_law 30 = .ok (.bipush 63, 2) := by decide +kernel
theorem dL_law_32 : decode cL_law 32 = .ok (.iand, 1) := by decide +kernel
theorem dL_law_33 : decode cL_law 33 = .ok (.tableswitch 1261 0 37 #[167, 230, 253, 266, 279, 292, 325, 348, 371, 404, 427, 486, 545, 568, 591, 634, 647, 660, 683, 696, 729, 752, 785, 818, 851, 910, 949, 998, 1021, 1034, 1077, 1110, 1143, 1156, 1179, 1202, 1225, 1238], 167) := by decide +kernel
theorem dL_law_200 : decode cL_law 200 = .ok (.aload_n 1, 1) := by decide +kernel
theorem dL_law_201 : decode cL_law 201 = .ok (.aload_n 0, 1) := by decide +kernel
theorem dL_law_202 : decode cL_law 202 = .ok (.iload_n 3, 1) := by decide +kernel
theorem dL_law_203 : decode cL_law 203 = .ok (.iconst 1, 1) := by decide +kernel
theorem dL_law_204 : decode cL_law 204 = .ok (.iadd, 1) := by decide +kernel
theorem dL_law_205 : decode cL_law 205 = .ok (.iaload, 1) := by decide +kernel
theorem dL_law_206 : decode cL_law 206 = .ok (.aload_n 0, 1) := by decide +kernel
theorem dL_law_207 : decode cL_law 207 = .ok (.iload_n 3, 1) := by decide +kernel
theorem dL_law_208 : decode cL_law 208 = .ok (.iconst 2, 1) := by decide +kernel
theorem dL_law_209 : decode cL_law 209 = .ok (.iadd, 1) := by decide +kernel
theorem dL_law_210 : decode cL_law 210 = .ok (.iaload, 1) := by decide +kernel
theorem dL_law_211 : decode cL_law 211 = .ok (.aload_n 0, 1) := by decide +kernel
theorem dL_law_212 : decode cL_law 212 = .ok (.iload_n 3, 1) := by decide +kernel
theorem dL_law_213 : decode cL_law 213 = .ok (.iconst 3, 1) := by decide +kernel
theorem dL_law_214 : decode cL_law 214 = .ok (.iadd, 1) := by decide +kernel
theorem dL_law_215 : decode cL_law 215 = .ok (.iaload, 1) := by decide +kernel
theorem dL_law_216 : decode cL_law 216 = .ok (.aload_n 0, 1) := by decide +kernel
theorem dL_law_217 : decode cL_law 217 = .ok (.iload_n 3, 1) := by decide +kernel
theorem dL_law_218 : decode cL_law 218 = .ok (.iconst 4, 1) := by decide +kernel
theorem dL_law_219 : decode cL_law 219 = .ok (.iadd, 1) := by decide +kernel
theorem dL_law_220 : decode cL_law 220 = .ok (.iaload, 1) := by decide +kernel
theorem dL_law_221 : decode cL_law 221 = .ok (.aload_n 0, 1) := by decide +kernel
theorem dL_law_222 : decode cL_law 222 = .ok (.iload_n 3, 1) := by decide +kernel
theorem dL_law_223 : decode cL_law 223 = .ok (.iconst 5, 1) := by decide +kernel
theorem dL_law_224 : decode cL_law 224 = .ok (.iadd, 1) := by decide +kernel
theorem dL_law_225 : decode cL_law 225 = .ok (.iaload, 1) := by decide +kernel
theorem dL_law_226 : decode cL_law 226 = .ok (.invokevirtual 13, 3) := by decide +kernel
theorem dL_law_229 : decode cL_law 229 = .ok (.aload_n 2, 1) := by decide +kernel
theorem dL_law_230 : decode cL_law 230 = .ok (.aload_n 0, 1) := by decide +kernel
theorem dL_law_231 : decode cL_law 231 = .ok (.iload_n 3, 1) := by decide +kernel
theorem dL_law_232 : decode cL_law 232 = .ok (.iconst 1, 1) := by decide +kernel
theorem dL_law_233 : decode cL_law 233 = .ok (.iadd, 1) := by decide +kernel
theorem dL_law_234 : decode cL_law 234 = .ok (.iaload, 1) := by decide +kernel
theorem dL_law_235 : decode cL_law 235 = .ok (.aload_n 0, 1) := by decide +kernel
theorem dL_law_236 : decode cL_law 236 = .ok (.iload_n 3, 1) := by decide +kernel
theorem dL_law_237 : decode cL_law 237 = .ok (.iconst 2, 1) := by decide +kernel
theorem dL_law_238 : decode cL_law 238 = .ok (.iadd, 1) := by decide +kernel
theorem dL_law_239 : decode cL_law 239 = .ok (.iaload, 1) := by decide +kernel
theorem dL_law_240 : decode cL_law 240 = .ok (.aload_n 0, 1) := by decide +kernel
theorem dL_law_241 : decode cL_law 241 = .ok (.iload_n 3, 1) := by decide +kernel
theorem dL_law_242 : decode cL_law 242 = .ok (.iconst 3, 1) := by decide +kernel
theorem dL_law_243 : decode cL_law 243 = .ok (.iadd, 1) := by decide +kernel
theorem dL_law_244 : decode cL_law 244 = .ok (.iaload, 1) := by decide +kernel
theorem dL_law_245 : decode cL_law 245 = .ok (.aload_n 0, 1) := by decide +kernel
theorem dL_law_246 : decode cL_law 246 = .ok (.iload_n 3, 1) := by decide +kernel
theorem dL_law_247 : decode cL_law 247 = .ok (.iconst 4, 1) := by decide +kernel
theorem dL_law_248 : decode cL_law 248 = .ok (.iadd, 1) := by decide +kernel
theorem dL_law_249 : decode cL_law 249 = .ok (.iaload, 1) := by decide +kernel
theorem dL_law_250 : decode cL_law 250 = .ok (.aload_n 0, 1) := by decide +kernel
theorem dL_law_251 : decode cL_law 251 = .ok (.iload_n 3, 1) := by decide +kernel
theorem dL_law_252 : decode cL_law 252 = .ok (.iconst 5, 1) := by decide +kernel
theorem dL_law_253 : decode cL_law 253 = .ok (.iadd, 1) := by decide +kernel
theorem dL_law_254 : decode cL_law 254 = .ok (.iaload, 1) := by decide +kernel
theorem dL_law_255 : decode cL_law 255 = .ok (.invokevirtual 17, 3) := by decide +kernel
theorem dL_law_258 : decode cL_law 258 = .ok (.if_icmp .eq 1036, 3) := by decide +kernel
theorem dL_law_261 : decode cL_law 261 = .ok (.iconst 0, 1) := by decide +kernel
theorem dL_law_262 : decode cL_law 262 = .ok (.ireturn, 1) := by decide +kernel
theorem dL_law_263 : decode cL_law 263 = .ok (.aload_n 1, 1) := by decide +kernel
theorem dL_law_264 : decode cL_law 264 = .ok (.aload_n 0, 1) := by decide +kernel
theorem dL_law_265 : decode cL_law 265 = .ok (.iload_n 3, 1) := by decide +kernel
theorem dL_law_266 : decode cL_law 266 = .ok (.iconst 1, 1) := by decide +kernel
theorem dL_law_267 : decode cL_law 267 = .ok (.iadd, 1) := by decide +kernel
theorem dL_law_268 : decode cL_law 268 = .ok (.iaload, 1) := by decide +kernel
theorem dL_law_269 : decode cL_law 269 = .ok (.invokevirtual 18, 3) := by decide +kernel
theorem dL_law_272 : decode cL_law 272 = .ok (.aload_n 2, 1) := by decide +kernel
theorem dL_law_273 : decode cL_law 273 = .ok (.aload_n 0, 1) := by decide +kernel
theorem dL_law_274 : decode cL_law 274 = .ok (.iload_n 3, 1) := by decide +kernel
theorem dL_law_275 : decode cL_law 275 = .ok (.iconst 1, 1) := by decide +kernel
theorem dL_law_276 : decode cL_law 276 = .ok (.iadd, 1) := by decide +kernel
theorem dL_law_277 : decode cL_law 277 = .ok (.iaload, 1) := by decide +kernel
theorem dL_law_278 : decode cL_law 278 = .ok (.invokevirtual 22, 3) := by decide +kernel
theorem dL_law_281 : decode cL_law 281 = .ok (.if_icmp .eq 1013, 3) := by decide +kernel
theorem dL_law_284 : decode cL_law 284 = .ok (.iconst 0, 1) := by decide +kernel
theorem dL_law_285 : decode cL_law 285 = .ok (.ireturn, 1) := by decide +kernel
theorem dL_law_286 : decode cL_law 286 = .ok (.aload_n 1, 1) := by decide +kernel
theorem dL_law_287 : decode cL_law 287 = .ok (.invokevirtual 23, 3) := by decide +kernel
theorem dL_law_290 : decode cL_law 290 = .ok (.aload_n 2, 1) := by decide +kernel
theorem dL_law_291 : decode cL_law 291 = .ok (.invokevirtual 27, 3) := by decide +kernel
theorem dL_law_294 : decode cL_law 294 = .ok (.if_icmp .eq 1000, 3) := by decide +kernel
theorem dL_law_297 : decode cL_law 297 = .ok (.iconst 0, 1) := by decide +kernel
theorem dL_law_298 : decode cL_law 298 = .ok (.ireturn, 1) := by decide +kernel
theorem dL_law_299 : decode cL_law 299 = .ok (.aload_n 1, 1) := by decide +kernel
theorem dL_law_300 : decode cL_law 300 = .ok (.invokevirtual 28, 3) := by decide +kernel
theorem dL_law_303 : decode cL_law 303 = .ok (.aload_n 2, 1) := by decide +kernel
theorem dL_law_304 : decode cL_law 304 = .ok (.invokevirtual 31, 3) := by decide +kernel
theorem dL_law_307 : decode cL_law 307 = .ok (.if_icmp .eq 987, 3) := by decide +kernel
theorem dL_law_310 : decode cL_law 310 = .ok (.iconst 0, 1) := by decide +kernel
theorem dL_law_311 : decode cL_law 311 = .ok (.ireturn, 1) := by decide +kernel
theorem dL_law_312 : decode cL_law 312 = .ok (.aload_n 1, 1) := by decide +kernel
theorem dL_law_313 : decode cL_law 313 = .ok (.invokevirtual 32, 3) := by decide +kernel
theorem dL_law_316 : decode cL_law 316 = .ok (.aload_n 2, 1) := by decide +kernel
theorem dL_law_317 : decode cL_law 317 = .ok (.invokevirtual 35, 3) := by decide +kernel
theorem dL_law_320 : decode cL_law 320 = .ok (.if_icmp .eq 974, 3) := by decide +kernel
theorem dL_law_323 : decode cL_law 323 = .ok (.iconst 0, 1) := by decide +kernel
theorem dL_law_324 : decode cL_law 324 = .ok (.ireturn, 1) := by decide +kernel
theorem dL_law_325 : decode cL_law 325 = .ok (.aload_n 1, 1) := by decide +kernel
theorem dL_law_326 : decode cL_law 326 = .ok (.aload_n 0, 1) := by decide +kernel
theorem dL_law_327 : decode cL_law 327 = .ok (.iload_n 3, 1) := by decide +kernel
theorem dL_law_328 : decode cL_law 328 = .ok (.iconst 1, 1) := by decide +kernel
theorem dL_law_329 : decode cL_law 329 = .ok (.iadd, 1) := by decide +kernel
theorem dL_law_330 : decode cL_law 330 = .ok (.iaload, 1) := by decide +kernel
theorem dL_law_331 : decode cL_law 331 = .ok (.aload_n 0, 1) := by decide +kernel
theorem dL_law_332 : decode cL_law 332 = .ok (.iload_n 3, 1) := by decide +kernel
theorem dL_law_333 : decode cL_law 333 = .ok (.iconst 2, 1) := by decide +kernel
theorem dL_law_334 : decode cL_law 334 = .ok (.iadd, 1) := by decide +kernel
theorem dL_law_335 : decode cL_law 335 = .ok (.iaload, 1) := by decide +kernel
theorem dL_law_336 : decode cL_law 336 = .ok (.invokevirtual 36, 3) := by decide +kernel
theorem dL_law_339 : decode cL_law 339 = .ok (.aload_n 2, 1) := by decide +kernel
theorem dL_law_340 : decode cL_law 340 = .ok (.aload_n 0, 1) := by decide +kernel
theorem dL_law_341 : decode cL_law 341 = .ok (.iload_n 3, 1) := by decide +kernel
theorem dL_law_342 : decode cL_law 342 = .ok (.iconst 1, 1) := by decide +kernel
theorem dL_law_343 : decode cL_law 343 = .ok (.iadd, 1) := by decide +kernel
theorem dL_law_344 : decode cL_law 344 = .ok (.iaload, 1) := by decide +kernel
theorem dL_law_345 : decode cL_law 345 = .ok (.aload_n 0, 1) := by decide +kernel
theorem dL_law_346 : decode cL_law 346 = .ok (.iload_n 3, 1) := by decide +kernel
theorem dL_law_347 : decode cL_law 347 = .ok (.iconst 2, 1) := by decide +kernel
theorem dL_law_348 : decode cL_law 348 = .ok (.iadd, 1) := by decide +kernel
theorem dL_law_349 : decode cL_law 349 = .ok (.iaload, 1) := by decide +kernel
theorem dL_law_350 : decode cL_law 350 = .ok (.invokevirtual 40, 3) := by decide +kernel
theorem dL_law_353 : decode cL_law 353 = .ok (.if_icmp .eq 941, 3) := by decide +kernel
theorem dL_law_356 : decode cL_law 356 = .ok (.iconst 0, 1) := by decide +kernel
theorem dL_law_357 : decode cL_law 357 = .ok (.ireturn, 1) := by decide +kernel
theorem dL_law_358 : decode cL_law 358 = .ok (.aload_n 1, 1) := by decide +kernel
theorem dL_law_359 : decode cL_law 359 = .ok (.aload_n 0, 1) := by decide +kernel
theorem dL_law_360 : decode cL_law 360 = .ok (.iload_n 3, 1) := by decide +kernel
theorem dL_law_361 : decode cL_law 361 = .ok (.iconst 1, 1) := by decide +kernel
theorem dL_law_362 : decode cL_law 362 = .ok (.iadd, 1) := by decide +kernel
theorem dL_law_363 : decode cL_law 363 = .ok (.iaload, 1) := by decide +kernel
theorem dL_law_364 : decode cL_law 364 = .ok (.invokevirtual 41, 3) := by decide +kernel
theorem dL_law_367 : decode cL_law 367 = .ok (.aload_n 2, 1) := by decide +kernel
theorem dL_law_368 : decode cL_law 368 = .ok (.aload_n 0, 1) := by decide +kernel
theorem dL_law_369 : decode cL_law 369 = .ok (.iload_n 3, 1) := by decide +kernel
theorem dL_law_370 : decode cL_law 370 = .ok (.iconst 1, 1) := by decide +kernel
theorem dL_law_371 : decode cL_law 371 = .ok (.iadd, 1) := by decide +kernel
theorem dL_law_372 : decode cL_law 372 = .ok (.iaload, 1) := by decide +kernel
theorem dL_law_373 : decode cL_law 373 = .ok (.invokevirtual 44, 3) := by decide +kernel
theorem dL_law_376 : decode cL_law 376 = .ok (.if_icmp .eq 918, 3) := by decide +kernel
theorem dL_law_379 : decode cL_law 379 = .ok (.iconst 0, 1) := by decide +kernel
theorem dL_law_380 : decode cL_law 380 = .ok (.ireturn, 1) := by decide +kernel
theorem dL_law_381 : decode cL_law 381 = .ok (.aload_n 1, 1) := by decide +kernel
theorem dL_law_382 : decode cL_law 382 = .ok (.aload_n 0, 1) := by decide +kernel
theorem dL_law_383 : decode cL_law 383 = .ok (.iload_n 3, 1) := by decide +kernel
theorem dL_law_384 : decode cL_law 384 = .ok (.iconst 1, 1) := by decide +kernel
theorem dL_law_385 : decode cL_law 385 = .ok (.iadd, 1) := by decide +kernel
theorem dL_law_386 : decode cL_law 386 = .ok (.iaload, 1) := by decide +kernel
theorem dL_law_387 : decode cL_law 387 = .ok (.invokevirtual 45, 3) := by decide +kernel
theorem dL_law_390 : decode cL_law 390 = .ok (.aload_n 2, 1) := by decide +kernel
theorem dL_law_391 : decode cL_law 391 = .ok (.aload_n 0, 1) := by decide +kernel
theorem dL_law_392 : decode cL_law 392 = .ok (.iload_n 3, 1) := by decide +kernel
theorem dL_law_393 : decode cL_law 393 = .ok (.iconst 1, 1) := by decide +kernel
theorem dL_law_394 : decode cL_law 394 = .ok (.iadd, 1) := by decide +kernel
theorem dL_law_395 : decode cL_law 395 = .ok (.iaload, 1) := by decide +kernel
theorem dL_law_396 : decode cL_law 396 = .ok (.invokevirtual 48, 3) := by decide +kernel
theorem dL_law_399 : decode cL_law 399 = .ok (.if_icmp .eq 895, 3) := by decide +kernel
theorem dL_law_402 : decode cL_law 402 = .ok (.iconst 0, 1) := by decide +kernel
theorem dL_law_403 : decode cL_law 403 = .ok (.ireturn, 1) := by decide +kernel
theorem dL_law_404 : decode cL_law 404 = .ok (.aload_n 1, 1) := by decide +kernel
theorem dL_law_405 : decode cL_law 405 = .ok (.aload_n 0, 1) := by decide +kernel
theorem dL_law_406 : decode cL_law 406 = .ok (.iload_n 3, 1) := by decide +kernel
theorem dL_law_407 : decode cL_law 407 = .ok (.iconst 1, 1) := by decide +kernel
theorem dL_law_408 : decode cL_law 408 = .ok (.iadd, 1) := by decide +kernel
theorem dL_law_409 : decode cL_law 409 = .ok (.iaload, 1) := by decide +kernel
theorem dL_law_410 : decode cL_law 410 = .ok (.aload_n 0, 1) := by decide +kernel
theorem dL_law_411 : decode cL_law 411 = .ok (.iload_n 3, 1) := by decide +kernel
theorem dL_law_412 : decode cL_law 412 = .ok (.iconst 2, 1) := by decide +kernel
theorem dL_law_413 : decode cL_law 413 = .ok (.iadd, 1) := by decide +kernel
theorem dL_law_414 : decode cL_law 414 = .ok (.iaload, 1) := by decide +kernel
theorem dL_law_415 : decode cL_law 415 = .ok (.invokevirtual 49, 3) := by decide +kernel
theorem dL_law_418 : decode cL_law 418 = .ok (.aload_n 2, 1) := by decide +kernel
theorem dL_law_419 : decode cL_law 419 = .ok (.aload_n 0, 1) := by decide +kernel
theorem dL_law_420 : decode cL_law 420 = .ok (.iload_n 3, 1) := by decide +kernel
theorem dL_law_421 : decode cL_law 421 = .ok (.iconst 1, 1) := by decide +kernel
theorem dL_law_422 : decode cL_law 422 = .ok (.iadd, 1) := by decide +kernel
theorem dL_law_423 : decode cL_law 423 = .ok (.iaload, 1) := by decide +kernel
theorem dL_law_424 : decode cL_law 424 = .ok (.aload_n 0, 1) := by decide +kernel
theorem dL_law_425 : decode cL_law 425 = .ok (.iload_n 3, 1) := by decide +kernel
theorem dL_law_426 : decode cL_law 426 = .ok (.iconst 2, 1) := by decide +kernel
theorem dL_law_427 : decode cL_law 427 = .ok (.iadd, 1) := by decide +kernel
theorem dL_law_428 : decode cL_law 428 = .ok (.iaload, 1) := by decide +kernel
theorem dL_law_429 : decode cL_law 429 = .ok (.invokevirtual 52, 3) := by decide +kernel
theorem dL_law_432 : decode cL_law 432 = .ok (.if_icmp .eq 862, 3) := by decide +kernel
theorem dL_law_435 : decode cL_law 435 = .ok (.iconst 0, 1) := by decide +kernel
theorem dL_law_436 : decode cL_law 436 = .ok (.ireturn, 1) := by decide +kernel
theorem dL_law_437 : decode cL_law 437 = .ok (.aload_n 1, 1) := by decide +kernel
theorem dL_law_438 : decode cL_law 438 = .ok (.aload_n 0, 1) := by decide +kernel
theorem dL_law_439 : decode cL_law 439 = .ok (.iload_n 3, 1) := by decide +kernel
theorem dL_law_440 : decode cL_law 440 = .ok (.iconst 1, 1) := by decide +kernel
theorem dL_law_441 : decode cL_law 441 = .ok (.iadd, 1) := by decide +kernel
theorem dL_law_442 : decode cL_law 442 = .ok (.iaload, 1) := by decide +kernel
theorem dL_law_443 : decode cL_law 443 = .ok (.invokevirtual 53, 3) := by decide +kernel
theorem dL_law_446 : decode cL_law 446 = .ok (.aload_n 2, 1) := by decide +kernel
theorem dL_law_447 : decode cL_law 447 = .ok (.aload_n 0, 1) := by decide +kernel
theorem dL_law_448 : decode cL_law 448 = .ok (.iload_n 3, 1) := by decide +kernel
theorem dL_law_449 : decode cL_law 449 = .ok (.iconst 1, 1) := by decide +kernel
theorem dL_law_450 : decode cL_law 450 = .ok (.iadd, 1) := by decide +kernel
theorem dL_law_451 : decode cL_law 451 = .ok (.iaload, 1) := by decide +kernel
theorem dL_law_452 : decode cL_law 452 = .ok (.invokevirtual 56, 3) := by decide +kernel
theorem dL_law_455 : decode cL_law 455 = .ok (.if_icmp .eq 839, 3) := by decide +kernel
theorem dL_law_458 : decode cL_law 458 = .ok (.iconst 0, 1) := by decide +kernel
theorem dL_law_459 : decode cL_law 459 = .ok (.ireturn, 1) := by decide +kernel
theorem dL_law_460 : decode cL_law 460 = .ok (.aload_n 1, 1) := by decide +kernel
theorem dL_law_461 : decode cL_law 461 = .ok (.aload_n 0, 1) := by decide +kernel
theorem dL_law_462 : decode cL_law 462 = .ok (.iload_n 3, 1) := by decide +kernel
theorem dL_law_463 : decode cL_law 463 = .ok (.iconst 1, 1) := by decide +kernel
theorem dL_law_464 : decode cL_law 464 = .ok (.iadd, 1) := by decide +kernel
theorem dL_law_465 : decode cL_law 465 = .ok (.iaload, 1) := by decide +kernel
theorem dL_law_466 : decode cL_law 466 = .ok (.aload_n 0, 1) := by decide +kernel
theorem dL_law_467 : decode cL_law 467 = .ok (.iload_n 3, 1) := by decide +kernel
theorem dL_law_468 : decode cL_law 468 = .ok (.iconst 2, 1) := by decide +kernel
theorem dL_law_469 : decode cL_law 469 = .ok (.iadd, 1) := by decide +kernel
theorem dL_law_470 : decode cL_law 470 = .ok (.iaload, 1) := by decide +kernel
theorem dL_law_471 : decode cL_law 471 = .ok (.aload_n 0, 1) := by decide +kernel
theorem dL_law_472 : decode cL_law 472 = .ok (.iload_n 3, 1) := by decide +kernel
theorem dL_law_473 : decode cL_law 473 = .ok (.iconst 3, 1) := by decide +kernel
theorem dL_law_474 : decode cL_law 474 = .ok (.iadd, 1) := by decide +kernel
theorem dL_law_475 : decode cL_law 475 = .ok (.iaload, 1) := by decide +kernel
theorem dL_law_476 : decode cL_law 476 = .ok (.ifCond .eq 7, 3) := by decide +kernel
theorem dL_law_479 : decode cL_law 479 = .ok (.iconst 1, 1) := by decide +kernel
theorem dL_law_480 : decode cL_law 480 = .ok (.goto 4, 3) := by decide +kernel
theorem dL_law_483 : decode cL_law 483 = .ok (.iconst 0, 1) := by decide +kernel
theorem dL_law_484 : decode cL_law 484 = .ok (.invokevirtual 57, 3) := by decide +kernel
theorem dL_law_487 : decode cL_law 487 = .ok (.aload_n 2, 1) := by decide +kernel
theorem dL_law_488 : decode cL_law 488 = .ok (.aload_n 0, 1) := by decide +kernel
theorem dL_law_489 : decode cL_law 489 = .ok (.iload_n 3, 1) := by decide +kernel
theorem dL_law_490 : decode cL_law 490 = .ok (.iconst 1, 1) := by decide +kernel
theorem dL_law_491 : decode cL_law 491 = .ok (.iadd, 1) := by decide +kernel
theorem dL_law_492 : decode cL_law 492 = .ok (.iaload, 1) := by decide +kernel
theorem dL_law_493 : decode cL_law 493 = .ok (.aload_n 0, 1) := by decide +kernel
theorem dL_law_494 : decode cL_law 494 = .ok (.iload_n 3, 1) := by decide +kernel
theorem dL_law_495 : decode cL_law 495 = .ok (.iconst 2, 1) := by decide +kernel
theorem dL_law_496 : decode cL_law 496 = .ok (.iadd, 1) := by decide +kernel
theorem dL_law_497 : decode cL_law 497 = .ok (.iaload, 1) := by decide +kernel
theorem dL_law_498 : decode cL_law 498 = .ok (.aload_n 0, 1) := by decide +kernel
theorem dL_law_499 : decode cL_law 499 = .ok (.iload_n 3, 1) := by decide +kernel
theorem dL_law_500 : decode cL_law 500 = .ok (.iconst 3, 1) := by decide +kernel
theorem dL_law_501 : decode cL_law 501 = .ok (.iadd, 1) := by decide +kernel
theorem dL_law_502 : decode cL_law 502 = .ok (.iaload, 1) := by decide +kernel
theorem dL_law_503 : decode cL_law 503 = .ok (.ifCond .eq 7, 3) := by decide +kernel
theorem dL_law_506 : decode cL_law 506 = .ok (.iconst 1, 1) := by decide +kernel
theorem dL_law_507 : decode cL_law 507 = .ok (.goto 4, 3) := by decide +kernel
theorem dL_law_510 : decode cL_law 510 = .ok (.iconst 0, 1) := by decide +kernel
theorem dL_law_511 : decode cL_law 511 = .ok (.invokevirtual 61, 3) := by decide +kernel
theorem dL_law_514 : decode cL_law 514 = .ok (.if_icmp .eq 780, 3) := by decide +kernel
theorem dL_law_517 : decode cL_law 517 = .ok (.iconst 0, 1) := by decide +kernel
theorem dL_law_518 : decode cL_law 518 = .ok (.ireturn, 1) := by decide +kernel
theorem dL_law_519 : decode cL_law 519 = .ok (.aload_n 1, 1) := by decide +kernel
theorem dL_law_520 : decode cL_law 520 = .ok (.aload_n 0, 1) := by decide +kernel
theorem dL_law_521 : decode cL_law 521 = .ok (.iload_n 3, 1) := by decide +kernel
theorem dL_law_522 : decode cL_law 522 = .ok (.iconst 1, 1) := by decide +kernel
theorem dL_law_523 : decode cL_law 523 = .ok (.iadd, 1) := by decide +kernel
theorem dL_law_524 : decode cL_law 524 = .ok (.iaload, 1) := by decide +kernel
theorem dL_law_525 : decode cL_law 525 = .ok (.aload_n 0, 1) := by decide +kernel
theorem dL_law_526 : decode cL_law 526 = .ok (.iload_n 3, 1) := by decide +kernel
theorem dL_law_527 : decode cL_law 527 = .ok (.iconst 2, 1) := by decide +kernel
theorem dL_law_528 : decode cL_law 528 = .ok (.iadd, 1) := by decide +kernel
theorem dL_law_529 : decode cL_law 529 = .ok (.iaload, 1) := by decide +kernel
theorem dL_law_530 : decode cL_law 530 = .ok (.aload_n 0, 1) := by decide +kernel
theorem dL_law_531 : decode cL_law 531 = .ok (.iload_n 3, 1) := by decide +kernel
theorem dL_law_532 : decode cL_law 532 = .ok (.iconst 3, 1) := by decide +kernel
theorem dL_law_533 : decode cL_law 533 = .ok (.iadd, 1) := by decide +kernel
theorem dL_law_534 : decode cL_law 534 = .ok (.iaload, 1) := by decide +kernel
theorem dL_law_535 : decode cL_law 535 = .ok (.ifCond .eq 7, 3) := by decide +kernel
theorem dL_law_538 : decode cL_law 538 = .ok (.iconst 1, 1) := by decide +kernel
theorem dL_law_539 : decode cL_law 539 = .ok (.goto 4, 3) := by decide +kernel
theorem dL_law_542 : decode cL_law 542 = .ok (.iconst 0, 1) := by decide +kernel
theorem dL_law_543 : decode cL_law 543 = .ok (.invokevirtual 62, 3) := by decide +kernel
theorem dL_law_546 : decode cL_law 546 = .ok (.aload_n 2, 1) := by decide +kernel
theorem dL_law_547 : decode cL_law 547 = .ok (.aload_n 0, 1) := by decide +kernel
theorem dL_law_548 : decode cL_law 548 = .ok (.iload_n 3, 1) := by decide +kernel
theorem dL_law_549 : decode cL_law 549 = .ok (.iconst 1, 1) := by decide +kernel
theorem dL_law_550 : decode cL_law 550 = .ok (.iadd, 1) := by decide +kernel
theorem dL_law_551 : decode cL_law 551 = .ok (.iaload, 1) := by decide +kernel
theorem dL_law_552 : decode cL_law 552 = .ok (.aload_n 0, 1) := by decide +kernel
theorem dL_law_553 : decode cL_law 553 = .ok (.iload_n 3, 1) := by decide +kernel
theorem dL_law_554 : decode cL_law 554 = .ok (.iconst 2, 1) := by decide +kernel
theorem dL_law_555 : decode cL_law 555 = .ok (.iadd, 1) := by decide +kernel
theorem dL_law_556 : decode cL_law 556 = .ok (.iaload, 1) := by decide +kernel
theorem dL_law_557 : decode cL_law 557 = .ok (.aload_n 0, 1) := by decide +kernel
theorem dL_law_558 : decode cL_law 558 = .ok (.iload_n 3, 1) := by decide +kernel
theorem dL_law_559 : decode cL_law 559 = .ok (.iconst 3, 1) := by decide +kernel
theorem dL_law_560 : decode cL_law 560 = .ok (.iadd, 1) := by decide +kernel
theorem dL_law_561 : decode cL_law 561 = .ok (.iaload, 1) := by decide +kernel
theorem dL_law_562 : decode cL_law 562 = .ok (.ifCond .eq 7, 3) := by decide +kernel
theorem dL_law_565 : decode cL_law 565 = .ok (.iconst 1, 1) := by decide +kernel
theorem dL_law_566 : decode cL_law 566 = .ok (.goto 4, 3) := by decide +kernel
theorem dL_law_569 : decode cL_law 569 = .ok (.iconst 0, 1) := by decide +kernel
theorem dL_law_570 : decode cL_law 570 = .ok (.invokevirtual 65, 3) := by decide +kernel
theorem dL_law_573 : decode cL_law 573 = .ok (.if_icmp .eq 721, 3) := by decide +kernel
theorem dL_law_576 : decode cL_law 576 = .ok (.iconst 0, 1) := by decide +kernel
theorem dL_law_577 : decode cL_law 577 = .ok (.ireturn, 1) := by decide +kernel
theorem dL_law_578 : decode cL_law 578 = .ok (.aload_n 1, 1) := by decide +kernel
theorem dL_law_579 : decode cL_law 579 = .ok (.aload_n 0, 1) := by decide +kernel
theorem dL_law_580 : decode cL_law 580 = .ok (.iload_n 3, 1) := by decide +kernel
theorem dL_law_581 : decode cL_law 581 = .ok (.iconst 1, 1) := by decide +kernel
theorem dL_law_582 : decode cL_law 582 = .ok (.iadd, 1) := by decide +kernel
theorem dL_law_583 : decode cL_law 583 = .ok (.iaload, 1) := by decide +kernel
theorem dL_law_584 : decode cL_law 584 = .ok (.invokevirtual 66, 3) := by decide +kernel
theorem dL_law_587 : decode cL_law 587 = .ok (.aload_n 2, 1) := by decide +kernel
theorem dL_law_588 : decode cL_law 588 = .ok (.aload_n 0, 1) := by decide +kernel
theorem dL_law_589 : decode cL_law 589 = .ok (.iload_n 3, 1) := by decide +kernel
theorem dL_law_590 : decode cL_law 590 = .ok (.iconst 1, 1) := by decide +kernel
theorem dL_law_591 : decode cL_law 591 = .ok (.iadd, 1) := by decide +kernel
theorem dL_law_592 : decode cL_law 592 = .ok (.iaload, 1) := by decide +kernel
theorem dL_law_593 : decode cL_law 593 = .ok (.invokevirtual 69, 3) := by decide +kernel
theorem dL_law_596 : decode cL_law 596 = .ok (.if_icmp .eq 698, 3) := by decide +kernel
theorem dL_law_599 : decode cL_law 599 = .ok (.iconst 0, 1) := by decide +kernel
theorem dL_law_600 : decode cL_law 600 = .ok (.ireturn, 1) := by decide +kernel
theorem dL_law_601 : decode cL_law 601 = .ok (.aload_n 1, 1) := by decide +kernel
theorem dL_law_602 : decode cL_law 602 = .ok (.aload_n 0, 1) := by decide +kernel
theorem dL_law_603 : decode cL_law 603 = .ok (.iload_n 3, 1) := by decide +kernel
theorem dL_law_604 : decode cL_law 604 = .ok (.iconst 1, 1) := by decide +kernel
theorem dL_law_605 : decode cL_law 605 = .ok (.iadd, 1) := by decide +kernel
theorem dL_law_606 : decode cL_law 606 = .ok (.iaload, 1) := by decide +kernel
theorem dL_law_607 : decode cL_law 607 = .ok (.invokevirtual 70, 3) := by decide +kernel
theorem dL_law_610 : decode cL_law 610 = .ok (.aload_n 2, 1) := by decide +kernel
theorem dL_law_611 : decode cL_law 611 = .ok (.aload_n 0, 1) := by decide +kernel
theorem dL_law_612 : decode cL_law 612 = .ok (.iload_n 3, 1) := by decide +kernel
theorem dL_law_613 : decode cL_law 613 = .ok (.iconst 1, 1) := by decide +kernel
theorem dL_law_614 : decode cL_law 614 = .ok (.iadd, 1) := by decide +kernel
theorem dL_law_615 : decode cL_law 615 = .ok (.iaload, 1) := by decide +kernel
theorem dL_law_616 : decode cL_law 616 = .ok (.invokevirtual 73, 3) := by decide +kernel
theorem dL_law_619 : decode cL_law 619 = .ok (.if_icmp .eq 675, 3) := by decide +kernel
theorem dL_law_622 : decode cL_law 622 = .ok (.iconst 0, 1) := by decide +kernel
theorem dL_law_623 : decode cL_law 623 = .ok (.ireturn, 1) := by decide +kernel
theorem dL_law_624 : decode cL_law 624 = .ok (.aload_n 1, 1) := by decide +kernel
theorem dL_law_625 : decode cL_law 625 = .ok (.aload_n 0, 1) := by decide +kernel
theorem dL_law_626 : decode cL_law 626 = .ok (.iload_n 3, 1) := by decide +kernel
theorem dL_law_627 : decode cL_law 627 = .ok (.iconst 1, 1) := by decide +kernel
theorem dL_law_628 : decode cL_law 628 = .ok (.iadd, 1) := by decide +kernel
theorem dL_law_629 : decode cL_law 629 = .ok (.iaload, 1) := by decide +kernel
theorem dL_law_630 : decode cL_law 630 = .ok (.aload_n 0, 1) := by decide +kernel
theorem dL_law_631 : decode cL_law 631 = .ok (.iload_n 3, 1) := by decide +kernel
theorem dL_law_632 : decode cL_law 632 = .ok (.iconst 2, 1) := by decide +kernel
theorem dL_law_633 : decode cL_law 633 = .ok (.iadd, 1) := by decide +kernel
theorem dL_law_634 : decode cL_law 634 = .ok (.iaload, 1) := by decide +kernel
theorem dL_law_635 : decode cL_law 635 = .ok (.aload_n 0, 1) := by decide +kernel
theorem dL_law_636 : decode cL_law 636 = .ok (.iload_n 3, 1) := by decide +kernel
theorem dL_law_637 : decode cL_law 637 = .ok (.iconst 3, 1) := by decide +kernel
theorem dL_law_638 : decode cL_law 638 = .ok (.iadd, 1) := by decide +kernel
theorem dL_law_639 : decode cL_law 639 = .ok (.iaload, 1) := by decide +kernel
theorem dL_law_640 : decode cL_law 640 = .ok (.invokevirtual 74, 3) := by decide +kernel
theorem dL_law_643 : decode cL_law 643 = .ok (.aload_n 2, 1) := by decide +kernel
theorem dL_law_644 : decode cL_law 644 = .ok (.aload_n 0, 1) := by decide +kernel
theorem dL_law_645 : decode cL_law 645 = .ok (.iload_n 3, 1) := by decide +kernel
theorem dL_law_646 : decode cL_law 646 = .ok (.iconst 1, 1) := by decide +kernel
theorem dL_law_647 : decode cL_law 647 = .ok (.iadd, 1) := by decide +kernel
theorem dL_law_648 : decode cL_law 648 = .ok (.iaload, 1) := by decide +kernel
theorem dL_law_649 : decode cL_law 649 = .ok (.aload_n 0, 1) := by decide +kernel
theorem dL_law_650 : decode cL_law 650 = .ok (.iload_n 3, 1) := by decide +kernel
theorem dL_law_651 : decode cL_law 651 = .ok (.iconst 2, 1) := by decide +kernel
theorem dL_law_652 : decode cL_law 652 = .ok (.iadd, 1) := by decide +kernel
theorem dL_law_653 : decode cL_law 653 = .ok (.iaload, 1) := by decide +kernel
theorem dL_law_654 : decode cL_law 654 = .ok (.aload_n 0, 1) := by decide +kernel
theorem dL_law_655 : decode cL_law 655 = .ok (.iload_n 3, 1) := by decide +kernel
theorem dL_law_656 : decode cL_law 656 = .ok (.iconst 3, 1) := by decide +kernel
theorem dL_law_657 : decode cL_law 657 = .ok (.iadd, 1) := by decide +kernel
theorem dL_law_658 : decode cL_law 658 = .ok (.iaload, 1) := by decide +kernel
theorem dL_law_659 : decode cL_law 659 = .ok (.invokevirtual 78, 3) := by decide +kernel
theorem dL_law_662 : decode cL_law 662 = .ok (.if_icmp .eq 632, 3) := by decide +kernel
theorem dL_law_665 : decode cL_law 665 = .ok (.iconst 0, 1) := by decide +kernel
theorem dL_law_666 : decode cL_law 666 = .ok (.ireturn, 1) := by decide +kernel
theorem dL_law_667 : decode cL_law 667 = .ok (.aload_n 1, 1) := by decide +kernel
theorem dL_law_668 : decode cL_law 668 = .ok (.invokevirtual 79, 3) := by decide +kernel
theorem dL_law_671 : decode cL_law 671 = .ok (.aload_n 2, 1) := by decide +kernel
theorem dL_law_672 : decode cL_law 672 = .ok (.invokevirtual 82, 3) := by decide +kernel
theorem dL_law_675 : decode cL_law 675 = .ok (.if_icmp .eq 619, 3) := by decide +kernel
theorem dL_law_678 : decode cL_law 678 = .ok (.iconst 0, 1) := by decide +kernel
theorem dL_law_679 : decode cL_law 679 = .ok (.ireturn, 1) := by decide +kernel
theorem dL_law_680 : decode cL_law 680 = .ok (.aload_n 1, 1) := by decide +kernel
theorem dL_law_681 : decode cL_law 681 = .ok (.invokevirtual 83, 3) := by decide +kernel
theorem dL_law_684 : decode cL_law 684 = .ok (.aload_n 2, 1) := by decide +kernel
theorem dL_law_685 : decode cL_law 685 = .ok (.invokevirtual 86, 3) := by decide +kernel
theorem dL_law_688 : decode cL_law 688 = .ok (.if_icmp .eq 606, 3) := by decide +kernel
theorem dL_law_691 : decode cL_law 691 = .ok (.iconst 0, 1) := by decide +kernel
theorem dL_law_692 : decode cL_law 692 = .ok (.ireturn, 1) := by decide +kernel
theorem dL_law_693 : decode cL_law 693 = .ok (.aload_n 1, 1) := by decide +kernel
theorem dL_law_694 : decode cL_law 694 = .ok (.aload_n 0, 1) := by decide +kernel
theorem dL_law_695 : decode cL_law 695 = .ok (.iload_n 3, 1) := by decide +kernel
theorem dL_law_696 : decode cL_law 696 = .ok (.iconst 1, 1) := by decide +kernel
theorem dL_law_697 : decode cL_law 697 = .ok (.iadd, 1) := by decide +kernel
theorem dL_law_698 : decode cL_law 698 = .ok (.iaload, 1) := by decide +kernel
theorem dL_law_699 : decode cL_law 699 = .ok (.invokevirtual 87, 3) := by decide +kernel
theorem dL_law_702 : decode cL_law 702 = .ok (.aload_n 2, 1) := by decide +kernel
theorem dL_law_703 : decode cL_law 703 = .ok (.aload_n 0, 1) := by decide +kernel
theorem dL_law_704 : decode cL_law 704 = .ok (.iload_n 3, 1) := by decide +kernel
theorem dL_law_705 : decode cL_law 705 = .ok (.iconst 1, 1) := by decide +kernel
theorem dL_law_706 : decode cL_law 706 = .ok (.iadd, 1) := by decide +kernel
theorem dL_law_707 : decode cL_law 707 = .ok (.iaload, 1) := by decide +kernel
theorem dL_law_708 : decode cL_law 708 = .ok (.invokevirtual 90, 3) := by decide +kernel
theorem dL_law_711 : decode cL_law 711 = .ok (.if_icmp .eq 583, 3) := by decide +kernel
theorem dL_law_714 : decode cL_law 714 = .ok (.iconst 0, 1) := by decide +kernel
theorem dL_law_715 : decode cL_law 715 = .ok (.ireturn, 1) := by decide +kernel
theorem dL_law_716 : decode cL_law 716 = .ok (.aload_n 1, 1) := by decide +kernel
theorem dL_law_717 : decode cL_law 717 = .ok (.invokevirtual 91, 3) := by decide +kernel
theorem dL_law_720 : decode cL_law 720 = .ok (.aload_n 2, 1) := by decide +kernel
theorem dL_law_721 : decode cL_law 721 = .ok (.invokevirtual 94, 3) := by decide +kernel
theorem dL_law_724 : decode cL_law 724 = .ok (.if_icmp .eq 570, 3) := by decide +kernel
theorem dL_law_727 : decode cL_law 727 = .ok (.iconst 0, 1) := by decide +kernel
theorem dL_law_728 : decode cL_law 728 = .ok (.ireturn, 1) := by decide +kernel
theorem dL_law_729 : decode cL_law 729 = .ok (.aload_n 1, 1) := by decide +kernel
theorem dL_law_730 : decode cL_law 730 = .ok (.aload_n 0, 1) := by decide +kernel
theorem dL_law_731 : decode cL_law 731 = .ok (.iload_n 3, 1) := by decide +kernel
theorem dL_law_732 : decode cL_law 732 = .ok (.iconst 1, 1) := by decide +kernel
theorem dL_law_733 : decode cL_law 733 = .ok (.iadd, 1) := by decide +kernel
theorem dL_law_734 : decode cL_law 734 = .ok (.iaload, 1) := by decide +kernel
theorem dL_law_735 : decode cL_law 735 = .ok (.aload_n 0, 1) := by decide +kernel
theorem dL_law_736 : decode cL_law 736 = .ok (.iload_n 3, 1) := by decide +kernel
theorem dL_law_737 : decode cL_law 737 = .ok (.iconst 2, 1) := by decide +kernel
theorem dL_law_738 : decode cL_law 738 = .ok (.iadd, 1) := by decide +kernel
theorem dL_law_739 : decode cL_law 739 = .ok (.iaload, 1) := by decide +kernel
theorem dL_law_740 : decode cL_law 740 = .ok (.invokevirtual 95, 3) := by decide +kernel
theorem dL_law_743 : decode cL_law 743 = .ok (.aload_n 2, 1) := by decide +kernel
theorem dL_law_744 : decode cL_law 744 = .ok (.aload_n 0, 1) := by decide +kernel
theorem dL_law_745 : decode cL_law 745 = .ok (.iload_n 3, 1) := by decide +kernel
theorem dL_law_746 : decode cL_law 746 = .ok (.iconst 1, 1) := by decide +kernel
theorem dL_law_747 : decode cL_law 747 = .ok (.iadd, 1) := by decide +kernel
theorem dL_law_748 : decode cL_law 748 = .ok (.iaload, 1) := by decide +kernel
theorem dL_law_749 : decode cL_law 749 = .ok (.aload_n 0, 1) := by decide +kernel
theorem dL_law_750 : decode cL_law 750 = .ok (.iload_n 3, 1) := by decide +kernel
theorem dL_law_751 : decode cL_law 751 = .ok (.iconst 2, 1) := by decide +kernel
theorem dL_law_752 : decode cL_law 752 = .ok (.iadd, 1) := by decide +kernel
theorem dL_law_753 : decode cL_law 753 = .ok (.iaload, 1) := by decide +kernel
theorem dL_law_754 : decode cL_law 754 = .ok (.invokevirtual 98, 3) := by decide +kernel
theorem dL_law_757 : decode cL_law 757 = .ok (.if_icmp .eq 537, 3) := by decide +kernel
theorem dL_law_760 : decode cL_law 760 = .ok (.iconst 0, 1) := by decide +kernel
theorem dL_law_761 : decode cL_law 761 = .ok (.ireturn, 1) := by decide +kernel
theorem dL_law_762 : decode cL_law 762 = .ok (.aload_n 1, 1) := by decide +kernel
theorem dL_law_763 : decode cL_law 763 = .ok (.aload_n 0, 1) := by decide +kernel
theorem dL_law_764 : decode cL_law 764 = .ok (.iload_n 3, 1) := by decide +kernel
theorem dL_law_765 : decode cL_law 765 = .ok (.iconst 1, 1) := by decide +kernel
theorem dL_law_766 : decode cL_law 766 = .ok (.iadd, 1) := by decide +kernel
theorem dL_law_767 : decode cL_law 767 = .ok (.iaload, 1) := by decide +kernel
theorem dL_law_768 : decode cL_law 768 = .ok (.invokevirtual 99, 3) := by decide +kernel
theorem dL_law_771 : decode cL_law 771 = .ok (.aload_n 2, 1) := by decide +kernel
theorem dL_law_772 : decode cL_law 772 = .ok (.aload_n 0, 1) := by decide +kernel
theorem dL_law_773 : decode cL_law 773 = .ok (.iload_n 3, 1) := by decide +kernel
theorem dL_law_774 : decode cL_law 774 = .ok (.iconst 1, 1) := by decide +kernel
theorem dL_law_775 : decode cL_law 775 = .ok (.iadd, 1) := by decide +kernel
theorem dL_law_776 : decode cL_law 776 = .ok (.iaload, 1) := by decide +kernel
theorem dL_law_777 : decode cL_law 777 = .ok (.invokevirtual 102, 3) := by decide +kernel
theorem dL_law_780 : decode cL_law 780 = .ok (.if_icmp .eq 514, 3) := by decide +kernel
theorem dL_law_783 : decode cL_law 783 = .ok (.iconst 0, 1) := by decide +kernel
theorem dL_law_784 : decode cL_law 784 = .ok (.ireturn, 1) := by decide +kernel
theorem dL_law_785 : decode cL_law 785 = .ok (.aload_n 1, 1) := by decide +kernel
theorem dL_law_786 : decode cL_law 786 = .ok (.aload_n 0, 1) := by decide +kernel
theorem dL_law_787 : decode cL_law 787 = .ok (.iload_n 3, 1) := by decide +kernel
theorem dL_law_788 : decode cL_law 788 = .ok (.iconst 1, 1) := by decide +kernel
theorem dL_law_789 : decode cL_law 789 = .ok (.iadd, 1) := by decide +kernel
theorem dL_law_790 : decode cL_law 790 = .ok (.iaload, 1) := by decide +kernel
theorem dL_law_791 : decode cL_law 791 = .ok (.aload_n 0, 1) := by decide +kernel
theorem dL_law_792 : decode cL_law 792 = .ok (.iload_n 3, 1) := by decide +kernel
theorem dL_law_793 : decode cL_law 793 = .ok (.iconst 2, 1) := by decide +kernel
theorem dL_law_794 : decode cL_law 794 = .ok (.iadd, 1) := by decide +kernel
theorem dL_law_795 : decode cL_law 795 = .ok (.iaload, 1) := by decide +kernel
theorem dL_law_796 : decode cL_law 796 = .ok (.invokevirtual 103, 3) := by decide +kernel
theorem dL_law_799 : decode cL_law 799 = .ok (.aload_n 2, 1) := by decide +kernel
theorem dL_law_800 : decode cL_law 800 = .ok (.aload_n 0, 1) := by decide +kernel
theorem dL_law_801 : decode cL_law 801 = .ok (.iload_n 3, 1) := by decide +kernel
theorem dL_law_802 : decode cL_law 802 = .ok (.iconst 1, 1) := by decide +kernel
theorem dL_law_803 : decode cL_law 803 = .ok (.iadd, 1) := by decide +kernel
theorem dL_law_804 : decode cL_law 804 = .ok (.iaload, 1) := by decide +kernel
theorem dL_law_805 : decode cL_law 805 = .ok (.aload_n 0, 1) := by decide +kernel
theorem dL_law_806 : decode cL_law 806 = .ok (.iload_n 3, 1) := by decide +kernel
theorem dL_law_807 : decode cL_law 807 = .ok (.iconst 2, 1) := by decide +kernel
theorem dL_law_808 : decode cL_law 808 = .ok (.iadd, 1) := by decide +kernel
theorem dL_law_809 : decode cL_law 809 = .ok (.iaload, 1) := by decide +kernel
theorem dL_law_810 : decode cL_law 810 = .ok (.invokevirtual 106, 3) := by decide +kernel
theorem dL_law_813 : decode cL_law 813 = .ok (.if_icmp .eq 481, 3) := by decide +kernel
theorem dL_law_816 : decode cL_law 816 = .ok (.iconst 0, 1) := by decide +kernel
theorem dL_law_817 : decode cL_law 817 = .ok (.ireturn, 1) := by decide +kernel
theorem dL_law_818 : decode cL_law 818 = .ok (.aload_n 1, 1) := by decide +kernel
theorem dL_law_819 : decode cL_law 819 = .ok (.aload_n 0, 1) := by decide +kernel
theorem dL_law_820 : decode cL_law 820 = .ok (.iload_n 3, 1) := by decide +kernel
theorem dL_law_821 : decode cL_law 821 = .ok (.iconst 1, 1) := by decide +kernel
theorem dL_law_822 : decode cL_law 822 = .ok (.iadd, 1) := by decide +kernel
theorem dL_law_823 : decode cL_law 823 = .ok (.iaload, 1) := by decide +kernel
theorem dL_law_824 : decode cL_law 824 = .ok (.aload_n 0, 1) := by decide +kernel
theorem dL_law_825 : decode cL_law 825 = .ok (.iload_n 3, 1) := by decide +kernel
theorem dL_law_826 : decode cL_law 826 = .ok (.iconst 2, 1) := by decide +kernel
theorem dL_law_827 : decode cL_law 827 = .ok (.iadd, 1) := by decide +kernel
theorem dL_law_828 : decode cL_law 828 = .ok (.iaload, 1) := by decide +kernel
theorem dL_law_829 : decode cL_law 829 = .ok (.invokevirtual 107, 3) := by decide +kernel
theorem dL_law_832 : decode cL_law 832 = .ok (.aload_n 2, 1) := by decide +kernel
theorem dL_law_833 : decode cL_law 833 = .ok (.aload_n 0, 1) := by decide +kernel
theorem dL_law_834 : decode cL_law 834 = .ok (.iload_n 3, 1) := by decide +kernel
theorem dL_law_835 : decode cL_law 835 = .ok (.iconst 1, 1) := by decide +kernel
theorem dL_law_836 : decode cL_law 836 = .ok (.iadd, 1) := by decide +kernel
theorem dL_law_837 : decode cL_law 837 = .ok (.iaload, 1) := by decide +kernel
theorem dL_law_838 : decode cL_law 838 = .ok (.aload_n 0, 1) := by decide +kernel
theorem dL_law_839 : decode cL_law 839 = .ok (.iload_n 3, 1) := by decide +kernel
theorem dL_law_840 : decode cL_law 840 = .ok (.iconst 2, 1) := by decide +kernel
theorem dL_law_841 : decode cL_law 841 = .ok (.iadd, 1) := by decide +kernel
theorem dL_law_842 : decode cL_law 842 = .ok (.iaload, 1) := by decide +kernel
theorem dL_law_843 : decode cL_law 843 = .ok (.invokevirtual 110, 3) := by decide +kernel
theorem dL_law_846 : decode cL_law 846 = .ok (.if_icmp .eq 448, 3) := by decide +kernel
theorem dL_law_849 : decode cL_law 849 = .ok (.iconst 0, 1) := by decide +kernel
theorem dL_law_850 : decode cL_law 850 = .ok (.ireturn, 1) := by decide +kernel
theorem dL_law_851 : decode cL_law 851 = .ok (.aload_n 1, 1) := by decide +kernel
theorem dL_law_852 : decode cL_law 852 = .ok (.aload_n 0, 1) := by decide +kernel
theorem dL_law_853 : decode cL_law 853 = .ok (.iload_n 3, 1) := by decide +kernel
theorem dL_law_854 : decode cL_law 854 = .ok (.iconst 1, 1) := by decide +kernel
theorem dL_law_855 : decode cL_law 855 = .ok (.iadd, 1) := by decide +kernel
theorem dL_law_856 : decode cL_law 856 = .ok (.iaload, 1) := by decide +kernel
theorem dL_law_857 : decode cL_law 857 = .ok (.aload_n 0, 1) := by decide +kernel
theorem dL_law_858 : decode cL_law 858 = .ok (.iload_n 3, 1) := by decide +kernel
theorem dL_law_859 : decode cL_law 859 = .ok (.iconst 2, 1) := by decide +kernel
theorem dL_law_860 : decode cL_law 860 = .ok (.iadd, 1) := by decide +kernel
theorem dL_law_861 : decode cL_law 861 = .ok (.iaload, 1) := by decide +kernel
theorem dL_law_862 : decode cL_law 862 = .ok (.invokevirtual 111, 3) := by decide +kernel
theorem dL_law_865 : decode cL_law 865 = .ok (.aload_n 2, 1) := by decide +kernel
theorem dL_law_866 : decode cL_law 866 = .ok (.aload_n 0, 1) := by decide +kernel
theorem dL_law_867 : decode cL_law 867 = .ok (.iload_n 3, 1) := by decide +kernel
theorem dL_law_868 : decode cL_law 868 = .ok (.iconst 1, 1) := by decide +kernel
theorem dL_law_869 : decode cL_law 869 = .ok (.iadd, 1) := by decide +kernel
theorem dL_law_870 : decode cL_law 870 = .ok (.iaload, 1) := by decide +kernel
theorem dL_law_871 : decode cL_law 871 = .ok (.aload_n 0, 1) := by decide +kernel
theorem dL_law_872 : decode cL_law 872 = .ok (.iload_n 3, 1) := by decide +kernel
theorem dL_law_873 : decode cL_law 873 = .ok (.iconst 2, 1) := by decide +kernel
theorem dL_law_874 : decode cL_law 874 = .ok (.iadd, 1) := by decide +kernel
theorem dL_law_875 : decode cL_law 875 = .ok (.iaload, 1) := by decide +kernel
theorem dL_law_876 : decode cL_law 876 = .ok (.invokevirtual 114, 3) := by decide +kernel
theorem dL_law_879 : decode cL_law 879 = .ok (.if_icmp .eq 415, 3) := by decide +kernel
theorem dL_law_882 : decode cL_law 882 = .ok (.iconst 0, 1) := by decide +kernel
theorem dL_law_883 : decode cL_law 883 = .ok (.ireturn, 1) := by decide +kernel
theorem dL_law_884 : decode cL_law 884 = .ok (.aload_n 1, 1) := by decide +kernel
theorem dL_law_885 : decode cL_law 885 = .ok (.aload_n 0, 1) := by decide +kernel
theorem dL_law_886 : decode cL_law 886 = .ok (.iload_n 3, 1) := by decide +kernel
theorem dL_law_887 : decode cL_law 887 = .ok (.iconst 1, 1) := by decide +kernel
theorem dL_law_888 : decode cL_law 888 = .ok (.iadd, 1) := by decide +kernel
theorem dL_law_889 : decode cL_law 889 = .ok (.iaload, 1) := by decide +kernel
theorem dL_law_890 : decode cL_law 890 = .ok (.aload_n 0, 1) := by decide +kernel
theorem dL_law_891 : decode cL_law 891 = .ok (.iload_n 3, 1) := by decide +kernel
theorem dL_law_892 : decode cL_law 892 = .ok (.iconst 2, 1) := by decide +kernel
theorem dL_law_893 : decode cL_law 893 = .ok (.iadd, 1) := by decide +kernel
theorem dL_law_894 : decode cL_law 894 = .ok (.iaload, 1) := by decide +kernel
theorem dL_law_895 : decode cL_law 895 = .ok (.aload_n 0, 1) := by decide +kernel
theorem dL_law_896 : decode cL_law 896 = .ok (.iload_n 3, 1) := by decide +kernel
theorem dL_law_897 : decode cL_law 897 = .ok (.iconst 3, 1) := by decide +kernel
theorem dL_law_898 : decode cL_law 898 = .ok (.iadd, 1) := by decide +kernel
theorem dL_law_899 : decode cL_law 899 = .ok (.iaload, 1) := by decide +kernel
theorem dL_law_900 : decode cL_law 900 = .ok (.ifCond .eq 7, 3) := by decide +kernel
theorem dL_law_903 : decode cL_law 903 = .ok (.iconst 1, 1) := by decide +kernel
theorem dL_law_904 : decode cL_law 904 = .ok (.goto 4, 3) := by decide +kernel
theorem dL_law_907 : decode cL_law 907 = .ok (.iconst 0, 1) := by decide +kernel
theorem dL_law_908 : decode cL_law 908 = .ok (.invokevirtual 115, 3) := by decide +kernel
theorem dL_law_911 : decode cL_law 911 = .ok (.aload_n 2, 1) := by decide +kernel
theorem dL_law_912 : decode cL_law 912 = .ok (.aload_n 0, 1) := by decide +kernel
theorem dL_law_913 : decode cL_law 913 = .ok (.iload_n 3, 1) := by decide +kernel
theorem dL_law_914 : decode cL_law 914 = .ok (.iconst 1, 1) := by decide +kernel
theorem dL_law_915 : decode cL_law 915 = .ok (.iadd, 1) := by decide +kernel
theorem dL_law_916 : decode cL_law 916 = .ok (.iaload, 1) := by decide +kernel
theorem dL_law_917 : decode cL_law 917 = .ok (.aload_n 0, 1) := by decide +kernel
theorem dL_law_918 : decode cL_law 918 = .ok (.iload_n 3, 1) := by decide +kernel
theorem dL_law_919 : decode cL_law 919 = .ok (.iconst 2, 1) := by decide +kernel
theorem dL_law_920 : decode cL_law 920 = .ok (.iadd, 1) := by decide +kernel
theorem dL_law_921 : decode cL_law 921 = .ok (.iaload, 1) := by decide +kernel
theorem dL_law_922 : decode cL_law 922 = .ok (.aload_n 0, 1) := by decide +kernel
theorem dL_law_923 : decode cL_law 923 = .ok (.iload_n 3, 1) := by decide +kernel
theorem dL_law_924 : decode cL_law 924 = .ok (.iconst 3, 1) := by decide +kernel
theorem dL_law_925 : decode cL_law 925 = .ok (.iadd, 1) := by decide +kernel
theorem dL_law_926 : decode cL_law 926 = .ok (.iaload, 1) := by decide +kernel
theorem dL_law_927 : decode cL_law 927 = .ok (.ifCond .eq 7, 3) := by decide +kernel
theorem dL_law_930 : decode cL_law 930 = .ok (.iconst 1, 1) := by decide +kernel
theorem dL_law_931 : decode cL_law 931 = .ok (.goto 4, 3) := by decide +kernel
theorem dL_law_934 : decode cL_law 934 = .ok (.iconst 0, 1) := by decide +kernel
theorem dL_law_935 : decode cL_law 935 = .ok (.invokevirtual 119, 3) := by decide +kernel
theorem dL_law_938 : decode cL_law 938 = .ok (.if_icmp .eq 356, 3) := by decide +kernel
theorem dL_law_941 : decode cL_law 941 = .ok (.iconst 0, 1) := by decide +kernel
theorem dL_law_942 : decode cL_law 942 = .ok (.ireturn, 1) := by decide +kernel
theorem dL_law_943 : decode cL_law 943 = .ok (.aload_n 1, 1) := by decide +kernel
theorem dL_law_944 : decode cL_law 944 = .ok (.aload_n 0, 1) := by decide +kernel
theorem dL_law_945 : decode cL_law 945 = .ok (.iload_n 3, 1) := by decide +kernel
theorem dL_law_946 : decode cL_law 946 = .ok (.iconst 1, 1) := by decide +kernel
theorem dL_law_947 : decode cL_law 947 = .ok (.iadd, 1) := by decide +kernel
theorem dL_law_948 : decode cL_law 948 = .ok (.iaload, 1) := by decide +kernel
theorem dL_law_949 : decode cL_law 949 = .ok (.ifCond .eq 7, 3) := by decide +kernel
theorem dL_law_952 : decode cL_law 952 = .ok (.iconst 1, 1) := by decide +kernel
theorem dL_law_953 : decode cL_law 953 = .ok (.goto 4, 3) := by decide +kernel
theorem dL_law_956 : decode cL_law 956 = .ok (.iconst 0, 1) := by decide +kernel
theorem dL_law_957 : decode cL_law 957 = .ok (.invokevirtual 120, 3) := by decide +kernel
theorem dL_law_960 : decode cL_law 960 = .ok (.aload_n 2, 1) := by decide +kernel
theorem dL_law_961 : decode cL_law 961 = .ok (.aload_n 0, 1) := by decide +kernel
theorem dL_law_962 : decode cL_law 962 = .ok (.iload_n 3, 1) := by decide +kernel
theorem dL_law_963 : decode cL_law 963 = .ok (.iconst 1, 1) := by decide +kernel
theorem dL_law_964 : decode cL_law 964 = .ok (.iadd, 1) := by decide +kernel
theorem dL_law_965 : decode cL_law 965 = .ok (.iaload, 1) := by decide +kernel
theorem dL_law_966 : decode cL_law 966 = .ok (.ifCond .eq 7, 3) := by decide +kernel
theorem dL_law_969 : decode cL_law 969 = .ok (.iconst 1, 1) := by decide +kernel
theorem dL_law_970 : decode cL_law 970 = .ok (.goto 4, 3) := by decide +kernel
theorem dL_law_973 : decode cL_law 973 = .ok (.iconst 0, 1) := by decide +kernel
theorem dL_law_974 : decode cL_law 974 = .ok (.invokevirtual 124, 3) := by decide +kernel
theorem dL_law_977 : decode cL_law 977 = .ok (.if_icmp .eq 317, 3) := by decide +kernel
theorem dL_law_980 : decode cL_law 980 = .ok (.iconst 0, 1) := by decide +kernel
theorem dL_law_981 : decode cL_law 981 = .ok (.ireturn, 1) := by decide +kernel
theorem dL_law_982 : decode cL_law 982 = .ok (.aload_n 1, 1) := by decide +kernel
theorem dL_law_983 : decode cL_law 983 = .ok (.aload_n 0, 1) := by decide +kernel
theorem dL_law_984 : decode cL_law 984 = .ok (.iload_n 3, 1) := by decide +kernel
theorem dL_law_985 : decode cL_law 985 = .ok (.iconst 1, 1) := by decide +kernel
theorem dL_law_986 : decode cL_law 986 = .ok (.iadd, 1) := by decide +kernel
theorem dL_law_987 : decode cL_law 987 = .ok (.iaload, 1) := by decide +kernel
theorem dL_law_988 : decode cL_law 988 = .ok (.aload_n 0, 1) := by decide +kernel
theorem dL_law_989 : decode cL_law 989 = .ok (.iload_n 3, 1) := by decide +kernel
theorem dL_law_990 : decode cL_law 990 = .ok (.iconst 2, 1) := by decide +kernel
theorem dL_law_991 : decode cL_law 991 = .ok (.iadd, 1) := by decide +kernel
theorem dL_law_992 : decode cL_law 992 = .ok (.iaload, 1) := by decide +kernel
theorem dL_law_993 : decode cL_law 993 = .ok (.ifCond .eq 7, 3) := by decide +kernel
theorem dL_law_996 : decode cL_law 996 = .ok (.iconst 1, 1) := by decide +kernel
theorem dL_law_997 : decode cL_law 997 = .ok (.goto 4, 3) := by decide +kernel
theorem dL_law_1000 : decode cL_law 1000 = .ok (.iconst 0, 1) := by decide +kernel
theorem dL_law_1001 : decode cL_law 1001 = .ok (.invokevirtual 125, 3) := by decide +kernel
theorem dL_law_1004 : decode cL_law 1004 = .ok (.aload_n 2, 1) := by decide +kernel
theorem dL_law_1005 : decode cL_law 1005 = .ok (.aload_n 0, 1) := by decide +kernel
theorem dL_law_1006 : decode cL_law 1006 = .ok (.iload_n 3, 1) := by decide +kernel
theorem dL_law_1007 : decode cL_law 1007 = .ok (.iconst 1, 1) := by decide +kernel
theorem dL_law_1008 : decode cL_law 1008 = .ok (.iadd, 1) := by decide +kernel
theorem dL_law_1009 : decode cL_law 1009 = .ok (.iaload, 1) := by decide +kernel
theorem dL_law_1010 : decode cL_law 1010 = .ok (.aload_n 0, 1) := by decide +kernel
theorem dL_law_1011 : decode cL_law 1011 = .ok (.iload_n 3, 1) := by decide +kernel
theorem dL_law_1012 : decode cL_law 1012 = .ok (.iconst 2, 1) := by decide +kernel
theorem dL_law_1013 : decode cL_law 1013 = .ok (.iadd, 1) := by decide +kernel
theorem dL_law_1014 : decode cL_law 1014 = .ok (.iaload, 1) := by decide +kernel
theorem dL_law_1015 : decode cL_law 1015 = .ok (.ifCond .eq 7, 3) := by decide +kernel
theorem dL_law_1018 : decode cL_law 1018 = .ok (.iconst 1, 1) := by decide +kernel
theorem dL_law_1019 : decode cL_law 1019 = .ok (.goto 4, 3) := by decide +kernel
theorem dL_law_1022 : decode cL_law 1022 = .ok (.iconst 0, 1) := by decide +kernel
theorem dL_law_1023 : decode cL_law 1023 = .ok (.invokevirtual 129, 3) := by decide +kernel
theorem dL_law_1026 : decode cL_law 1026 = .ok (.if_icmp .eq 268, 3) := by decide +kernel
theorem dL_law_1029 : decode cL_law 1029 = .ok (.iconst 0, 1) := by decide +kernel
theorem dL_law_1030 : decode cL_law 1030 = .ok (.ireturn, 1) := by decide +kernel
theorem dL_law_1031 : decode cL_law 1031 = .ok (.aload_n 1, 1) := by decide +kernel
theorem dL_law_1032 : decode cL_law 1032 = .ok (.aload_n 0, 1) := by decide +kernel
theorem dL_law_1033 : decode cL_law 1033 = .ok (.iload_n 3, 1) := by decide +kernel
theorem dL_law_1034 : decode cL_law 1034 = .ok (.iconst 1, 1) := by decide +kernel
theorem dL_law_1035 : decode cL_law 1035 = .ok (.iadd, 1) := by decide +kernel
theorem dL_law_1036 : decode cL_law 1036 = .ok (.iaload, 1) := by decide +kernel
theorem dL_law_1037 : decode cL_law 1037 = .ok (.invokevirtual 130, 3) := by decide +kernel
theorem dL_law_1040 : decode cL_law 1040 = .ok (.aload_n 2, 1) := by decide +kernel
theorem dL_law_1041 : decode cL_law 1041 = .ok (.aload_n 0, 1) := by decide +kernel
theorem dL_law_1042 : decode cL_law 1042 = .ok (.iload_n 3, 1) := by decide +kernel
theorem dL_law_1043 : decode cL_law 1043 = .ok (.iconst 1, 1) := by decide +kernel
theorem dL_law_1044 : decode cL_law 1044 = .ok (.iadd, 1) := by decide +kernel
theorem dL_law_1045 : decode cL_law 1045 = .ok (.iaload, 1) := by decide +kernel
theorem dL_law_1046 : decode cL_law 1046 = .ok (.invokevirtual 133, 3) := by decide +kernel
theorem dL_law_1049 : decode cL_law 1049 = .ok (.if_icmp .eq 245, 3) := by decide +kernel
theorem dL_law_1052 : decode cL_law 1052 = .ok (.iconst 0, 1) := by decide +kernel
theorem dL_law_1053 : decode cL_law 1053 = .ok (.ireturn, 1) := by decide +kernel
theorem dL_law_1054 : decode cL_law 1054 = .ok (.aload_n 1, 1) := by decide +kernel
theorem dL_law_1055 : decode cL_law 1055 = .ok (.invokevirtual 134, 3) := by decide +kernel
theorem dL_law_1058 : decode cL_law 1058 = .ok (.aload_n 2, 1) := by decide +kernel
theorem dL_law_1059 : decode cL_law 1059 = .ok (.invokevirtual 137, 3) := by decide +kernel
theorem dL_law_1062 : decode cL_law 1062 = .ok (.if_icmp .eq 232, 3) := by decide +kernel
theorem dL_law_1065 : decode cL_law 1065 = .ok (.iconst 0, 1) := by decide +kernel
theorem dL_law_1066 : decode cL_law 1066 = .ok (.ireturn, 1) := by decide +kernel
theorem dL_law_1067 : decode cL_law 1067 = .ok (.aload_n 1, 1) := by decide +kernel
theorem dL_law_1068 : decode cL_law 1068 = .ok (.aload_n 0, 1) := by decide +kernel
theorem dL_law_1069 : decode cL_law 1069 = .ok (.iload_n 3, 1) := by decide +kernel
theorem dL_law_1070 : decode cL_law 1070 = .ok (.iconst 1, 1) := by decide +kernel
theorem dL_law_1071 : decode cL_law 1071 = .ok (.iadd, 1) := by decide +kernel
theorem dL_law_1072 : decode cL_law 1072 = .ok (.iaload, 1) := by decide +kernel
theorem dL_law_1073 : decode cL_law 1073 = .ok (.aload_n 0, 1) := by decide +kernel
theorem dL_law_1074 : decode cL_law 1074 = .ok (.iload_n 3, 1) := by decide +kernel
theorem dL_law_1075 : decode cL_law 1075 = .ok (.iconst 2, 1) := by decide +kernel
theorem dL_law_1076 : decode cL_law 1076 = .ok (.iadd, 1) := by decide +kernel
theorem dL_law_1077 : decode cL_law 1077 = .ok (.iaload, 1) := by decide +kernel
theorem dL_law_1078 : decode cL_law 1078 = .ok (.aload_n 0, 1) := by decide +kernel
theorem dL_law_1079 : decode cL_law 1079 = .ok (.iload_n 3, 1) := by decide +kernel
theorem dL_law_1080 : decode cL_law 1080 = .ok (.iconst 3, 1) := by decide +kernel
theorem dL_law_1081 : decode cL_law 1081 = .ok (.iadd, 1) := by decide +kernel
theorem dL_law_1082 : decode cL_law 1082 = .ok (.iaload, 1) := by decide +kernel
theorem dL_law_1083 : decode cL_law 1083 = .ok (.invokevirtual 138, 3) := by decide +kernel
theorem dL_law_1086 : decode cL_law 1086 = .ok (.aload_n 2, 1) := by decide +kernel
theorem dL_law_1087 : decode cL_law 1087 = .ok (.aload_n 0, 1) := by decide +kernel
theorem dL_law_1088 : decode cL_law 1088 = .ok (.iload_n 3, 1) := by decide +kernel
theorem dL_law_1089 : decode cL_law 1089 = .ok (.iconst 1, 1) := by decide +kernel
theorem dL_law_1090 : decode cL_law 1090 = .ok (.iadd, 1) := by decide +kernel
theorem dL_law_1091 : decode cL_law 1091 = .ok (.iaload, 1) := by decide +kernel
theorem dL_law_1092 : decode cL_law 1092 = .ok (.aload_n 0, 1) := by decide +kernel
theorem dL_law_1093 : decode cL_law 1093 = .ok (.iload_n 3, 1) := by decide +kernel
theorem dL_law_1094 : decode cL_law 1094 = .ok (.iconst 2, 1) := by decide +kernel
theorem dL_law_1095 : decode cL_law 1095 = .ok (.iadd, 1) := by decide +kernel
theorem dL_law_1096 : decode cL_law 1096 = .ok (.iaload, 1) := by decide +kernel
theorem dL_law_1097 : decode cL_law 1097 = .ok (.aload_n 0, 1) := by decide +kernel
theorem dL_law_1098 : decode cL_law 1098 = .ok (.iload_n 3, 1) := by decide +kernel
theorem dL_law_1099 : decode cL_law 1099 = .ok (.iconst 3, 1) := by decide +kernel
theorem dL_law_1100 : decode cL_law 1100 = .ok (.iadd, 1) := by decide +kernel
theorem dL_law_1101 : decode cL_law 1101 = .ok (.iaload, 1) := by decide +kernel
theorem dL_law_1102 : decode cL_law 1102 = .ok (.invokevirtual 141, 3) := by decide +kernel
theorem dL_law_1105 : decode cL_law 1105 = .ok (.if_icmp .eq 189, 3) := by decide +kernel
theorem dL_law_1108 : decode cL_law 1108 = .ok (.iconst 0, 1) := by decide +kernel
theorem dL_law_1109 : decode cL_law 1109 = .ok (.ireturn, 1) := by decide +kernel
theorem dL_law_1110 : decode cL_law 1110 = .ok (.aload_n 1, 1) := by decide +kernel
theorem dL_law_1111 : decode cL_law 1111 = .ok (.aload_n 0, 1) := by decide +kernel
theorem dL_law_1112 : decode cL_law 1112 = .ok (.iload_n 3, 1) := by decide +kernel
theorem dL_law_1113 : decode cL_law 1113 = .ok (.iconst 1, 1) := by decide +kernel
theorem dL_law_1114 : decode cL_law 1114 = .ok (.iadd, 1) := by decide +kernel
theorem dL_law_1115 : decode cL_law 1115 = .ok (.iaload, 1) := by decide +kernel
theorem dL_law_1116 : decode cL_law 1116 = .ok (.aload_n 0, 1) := by decide +kernel
theorem dL_law_1117 : decode cL_law 1117 = .ok (.iload_n 3, 1) := by decide +kernel
theorem dL_law_1118 : decode cL_law 1118 = .ok (.iconst 2, 1) := by decide +kernel
theorem dL_law_1119 : decode cL_law 1119 = .ok (.iadd, 1) := by decide +kernel
theorem dL_law_1120 : decode cL_law 1120 = .ok (.iaload, 1) := by decide +kernel
theorem dL_law_1121 : decode cL_law 1121 = .ok (.invokevirtual 142, 3) := by decide +kernel
theorem dL_law_1124 : decode cL_law 1124 = .ok (.aload_n 2, 1) := by decide +kernel
theorem dL_law_1125 : decode cL_law 1125 = .ok (.aload_n 0, 1) := by decide +kernel
theorem dL_law_1126 : decode cL_law 1126 = .ok (.iload_n 3, 1) := by decide +kernel
theorem dL_law_1127 : decode cL_law 1127 = .ok (.iconst 1, 1) := by decide +kernel
theorem dL_law_1128 : decode cL_law 1128 = .ok (.iadd, 1) := by decide +kernel
theorem dL_law_1129 : decode cL_law 1129 = .ok (.iaload, 1) := by decide +kernel
theorem dL_law_1130 : decode cL_law 1130 = .ok (.aload_n 0, 1) := by decide +kernel
theorem dL_law_1131 : decode cL_law 1131 = .ok (.iload_n 3, 1) := by decide +kernel
theorem dL_law_1132 : decode cL_law 1132 = .ok (.iconst 2, 1) := by decide +kernel
theorem dL_law_1133 : decode cL_law 1133 = .ok (.iadd, 1) := by decide +kernel
theorem dL_law_1134 : decode cL_law 1134 = .ok (.iaload, 1) := by decide +kernel
theorem dL_law_1135 : decode cL_law 1135 = .ok (.invokevirtual 145, 3) := by decide +kernel
theorem dL_law_1138 : decode cL_law 1138 = .ok (.if_icmp .eq 156, 3) := by decide +kernel
theorem dL_law_1141 : decode cL_law 1141 = .ok (.iconst 0, 1) := by decide +kernel
theorem dL_law_1142 : decode cL_law 1142 = .ok (.ireturn, 1) := by decide +kernel
theorem dL_law_1143 : decode cL_law 1143 = .ok (.aload_n 1, 1) := by decide +kernel
theorem dL_law_1144 : decode cL_law 1144 = .ok (.aload_n 0, 1) := by decide +kernel
theorem dL_law_1145 : decode cL_law 1145 = .ok (.iload_n 3, 1) := by decide +kernel
theorem dL_law_1146 : decode cL_law 1146 = .ok (.iconst 1, 1) := by decide +kernel
theorem dL_law_1147 : decode cL_law 1147 = .ok (.iadd, 1) := by decide +kernel
theorem dL_law_1148 : decode cL_law 1148 = .ok (.iaload, 1) := by decide +kernel
theorem dL_law_1149 : decode cL_law 1149 = .ok (.aload_n 0, 1) := by decide +kernel
theorem dL_law_1150 : decode cL_law 1150 = .ok (.iload_n 3, 1) := by decide +kernel
theorem dL_law_1151 : decode cL_law 1151 = .ok (.iconst 2, 1) := by decide +kernel
theorem dL_law_1152 : decode cL_law 1152 = .ok (.iadd, 1) := by decide +kernel
theorem dL_law_1153 : decode cL_law 1153 = .ok (.iaload, 1) := by decide +kernel
theorem dL_law_1154 : decode cL_law 1154 = .ok (.invokevirtual 146, 3) := by decide +kernel
theorem dL_law_1157 : decode cL_law 1157 = .ok (.aload_n 2, 1) := by decide +kernel
theorem dL_law_1158 : decode cL_law 1158 = .ok (.aload_n 0, 1) := by decide +kernel
theorem dL_law_1159 : decode cL_law 1159 = .ok (.iload_n 3, 1) := by decide +kernel
theorem dL_law_1160 : decode cL_law 1160 = .ok (.iconst 1, 1) := by decide +kernel
theorem dL_law_1161 : decode cL_law 1161 = .ok (.iadd, 1) := by decide +kernel
theorem dL_law_1162 : decode cL_law 1162 = .ok (.iaload, 1) := by decide +kernel
theorem dL_law_1163 : decode cL_law 1163 = .ok (.aload_n 0, 1) := by decide +kernel
theorem dL_law_1164 : decode cL_law 1164 = .ok (.iload_n 3, 1) := by decide +kernel
theorem dL_law_1165 : decode cL_law 1165 = .ok (.iconst 2, 1) := by decide +kernel
theorem dL_law_1166 : decode cL_law 1166 = .ok (.iadd, 1) := by decide +kernel
theorem dL_law_1167 : decode cL_law 1167 = .ok (.iaload, 1) := by decide +kernel
theorem dL_law_1168 : decode cL_law 1168 = .ok (.invokevirtual 149, 3) := by decide +kernel
theorem dL_law_1171 : decode cL_law 1171 = .ok (.if_icmp .eq 123, 3) := by decide +kernel
theorem dL_law_1174 : decode cL_law 1174 = .ok (.iconst 0, 1) := by decide +kernel
theorem dL_law_1175 : decode cL_law 1175 = .ok (.ireturn, 1) := by decide +kernel
theorem dL_law_1176 : decode cL_law 1176 = .ok (.aload_n 1, 1) := by decide +kernel
theorem dL_law_1177 : decode cL_law 1177 = .ok (.invokevirtual 150, 3) := by decide +kernel
theorem dL_law_1180 : decode cL_law 1180 = .ok (.aload_n 2, 1) := by decide +kernel
theorem dL_law_1181 : decode cL_law 1181 = .ok (.invokevirtual 153, 3) := by decide +kernel
theorem dL_law_1184 : decode cL_law 1184 = .ok (.if_icmp .eq 110, 3) := by decide +kernel
theorem dL_law_1187 : decode cL_law 1187 = .ok (.iconst 0, 1) := by decide +kernel
theorem dL_law_1188 : decode cL_law 1188 = .ok (.ireturn, 1) := by decide +kernel
theorem dL_law_1189 : decode cL_law 1189 = .ok (.aload_n 1, 1) := by decide +kernel
theorem dL_law_1190 : decode cL_law 1190 = .ok (.aload_n 0, 1) := by decide +kernel
theorem dL_law_1191 : decode cL_law 1191 = .ok (.iload_n 3, 1) := by decide +kernel
theorem dL_law_1192 : decode cL_law 1192 = .ok (.iconst 1, 1) := by decide +kernel
theorem dL_law_1193 : decode cL_law 1193 = .ok (.iadd, 1) := by decide +kernel
theorem dL_law_1194 : decode cL_law 1194 = .ok (.iaload, 1) := by decide +kernel
theorem dL_law_1195 : decode cL_law 1195 = .ok (.invokevirtual 154, 3) := by decide +kernel
theorem dL_law_1198 : decode cL_law 1198 = .ok (.aload_n 2, 1) := by decide +kernel
theorem dL_law_1199 : decode cL_law 1199 = .ok (.aload_n 0, 1) := by decide +kernel
theorem dL_law_1200 : decode cL_law 1200 = .ok (.iload_n 3, 1) := by decide +kernel
theorem dL_law_1201 : decode cL_law 1201 = .ok (.iconst 1, 1) := by decide +kernel
theorem dL_law_1202 : decode cL_law 1202 = .ok (.iadd, 1) := by decide +kernel
theorem dL_law_1203 : decode cL_law 1203 = .ok (.iaload, 1) := by decide +kernel
theorem dL_law_1204 : decode cL_law 1204 = .ok (.invokevirtual 157, 3) := by decide +kernel
theorem dL_law_1207 : decode cL_law 1207 = .ok (.if_icmp .eq 87, 3) := by decide +kernel
theorem dL_law_1210 : decode cL_law 1210 = .ok (.iconst 0, 1) := by decide +kernel
theorem dL_law_1211 : decode cL_law 1211 = .ok (.ireturn, 1) := by decide +kernel
theorem dL_law_1212 : decode cL_law 1212 = .ok (.aload_n 1, 1) := by decide +kernel
theorem dL_law_1213 : decode cL_law 1213 = .ok (.aload_n 0, 1) := by decide +kernel
theorem dL_law_1214 : decode cL_law 1214 = .ok (.iload_n 3, 1) := by decide +kernel
theorem dL_law_1215 : decode cL_law 1215 = .ok (.iconst 1, 1) := by decide +kernel
theorem dL_law_1216 : decode cL_law 1216 = .ok (.iadd, 1) := by decide +kernel
theorem dL_law_1217 : decode cL_law 1217 = .ok (.iaload, 1) := by decide +kernel
theorem dL_law_1218 : decode cL_law 1218 = .ok (.invokevirtual 158, 3) := by decide +kernel
theorem dL_law_1221 : decode cL_law 1221 = .ok (.aload_n 2, 1) := by decide +kernel
theorem dL_law_1222 : decode cL_law 1222 = .ok (.aload_n 0, 1) := by decide +kernel
theorem dL_law_1223 : decode cL_law 1223 = .ok (.iload_n 3, 1) := by decide +kernel
theorem dL_law_1224 : decode cL_law 1224 = .ok (.iconst 1, 1) := by decide +kernel
theorem dL_law_1225 : decode cL_law 1225 = .ok (.iadd, 1) := by decide +kernel
theorem dL_law_1226 : decode cL_law 1226 = .ok (.iaload, 1) := by decide +kernel
theorem dL_law_1227 : decode cL_law 1227 = .ok (.invokevirtual 161, 3) := by decide +kernel
theorem dL_law_1230 : decode cL_law 1230 = .ok (.if_icmp .eq 64, 3) := by decide +kernel
theorem dL_law_1233 : decode cL_law 1233 = .ok (.iconst 0, 1) := by decide +kernel
theorem dL_law_1234 : decode cL_law 1234 = .ok (.ireturn, 1) := by decide +kernel
theorem dL_law_1235 : decode cL_law 1235 = .ok (.aload_n 1, 1) := by decide +kernel
theorem dL_law_1236 : decode cL_law 1236 = .ok (.aload_n 0, 1) := by decide +kernel
theorem dL_law_1237 : decode cL_law 1237 = .ok (.iload_n 3, 1) := by decide +kernel
theorem dL_law_1238 : decode cL_law 1238 = .ok (.iconst 1, 1) := by decide +kernel
theorem dL_law_1239 : decode cL_law 1239 = .ok (.iadd, 1) := by decide +kernel
theorem dL_law_1240 : decode cL_law 1240 = .ok (.iaload, 1) := by decide +kernel
theorem dL_law_1241 : decode cL_law 1241 = .ok (.invokevirtual 162, 3) := by decide +kernel
theorem dL_law_1244 : decode cL_law 1244 = .ok (.aload_n 2, 1) := by decide +kernel
theorem dL_law_1245 : decode cL_law 1245 = .ok (.aload_n 0, 1) := by decide +kernel
theorem dL_law_1246 : decode cL_law 1246 = .ok (.iload_n 3, 1) := by decide +kernel
theorem dL_law_1247 : decode cL_law 1247 = .ok (.iconst 1, 1) := by decide +kernel
theorem dL_law_1248 : decode cL_law 1248 = .ok (.iadd, 1) := by decide +kernel
theorem dL_law_1249 : decode cL_law 1249 = .ok (.iaload, 1) := by decide +kernel
theorem dL_law_1250 : decode cL_law 1250 = .ok (.invokevirtual 165, 3) := by decide +kernel
theorem dL_law_1253 : decode cL_law 1253 = .ok (.if_icmp .eq 41, 3) := by decide +kernel
theorem dL_law_1256 : decode cL_law 1256 = .ok (.iconst 0, 1) := by decide +kernel
theorem dL_law_1257 : decode cL_law 1257 = .ok (.ireturn, 1) := by decide +kernel
theorem dL_law_1258 : decode cL_law 1258 = .ok (.aload_n 1, 1) := by decide +kernel
theorem dL_law_1259 : decode cL_law 1259 = .ok (.invokevirtual 166, 3) := by decide +kernel
theorem dL_law_1262 : decode cL_law 1262 = .ok (.aload_n 2, 1) := by decide +kernel
theorem dL_law_1263 : decode cL_law 1263 = .ok (.invokevirtual 169, 3) := by decide +kernel
theorem dL_law_1266 : decode cL_law 1266 = .ok (.if_icmp .eq 28, 3) := by decide +kernel
theorem dL_law_1269 : decode cL_law 1269 = .ok (.iconst 0, 1) := by decide +kernel
theorem dL_law_1270 : decode cL_law 1270 = .ok (.ireturn, 1) := by decide +kernel
theorem dL_law_1271 : decode cL_law 1271 = .ok (.aload_n 1, 1) := by decide +kernel
theorem dL_law_1272 : decode cL_law 1272 = .ok (.aload_n 0, 1) := by decide +kernel
theorem dL_law_1273 : decode cL_law 1273 = .ok (.iload_n 3, 1) := by decide +kernel
theorem dL_law_1274 : decode cL_law 1274 = .ok (.iconst 1, 1) := by decide +kernel
theorem dL_law_1275 : decode cL_law 1275 = .ok (.iadd, 1) := by decide +kernel
theorem dL_law_1276 : decode cL_law 1276 = .ok (.iaload, 1) := by decide +kernel
theorem dL_law_1277 : decode cL_law 1277 = .ok (.invokevirtual 170, 3) := by decide +kernel
theorem dL_law_1280 : decode cL_law 1280 = .ok (.aload_n 2, 1) := by decide +kernel
theorem dL_law_1281 : decode cL_law 1281 = .ok (.aload_n 0, 1) := by decide +kernel
theorem dL_law_1282 : decode cL_law 1282 = .ok (.iload_n 3, 1) := by decide +kernel
theorem dL_law_1283 : decode cL_law 1283 = .ok (.iconst 1, 1) := by decide +kernel
theorem dL_law_1284 : decode cL_law 1284 = .ok (.iadd, 1) := by decide +kernel
theorem dL_law_1285 : decode cL_law 1285 = .ok (.iaload, 1) := by decide +kernel
theorem dL_law_1286 : decode cL_law 1286 = .ok (.invokevirtual 173, 3) := by decide +kernel
theorem dL_law_1289 : decode cL_law 1289 = .ok (.if_icmp .eq 5, 3) := by decide +kernel
theorem dL_law_1292 : decode cL_law 1292 = .ok (.iconst 0, 1) := by decide +kernel
theorem dL_law_1293 : decode cL_law 1293 = .ok (.ireturn, 1) := by decide +kernel
theorem dL_law_1294 : decode cL_law 1294 = .ok (.iinc 3 6, 3) := by decide +kernel
theorem dL_law_1297 : decode cL_law 1297 = .ok (.goto (-1279), 3) := by decide +kernel
theorem dL_law_1300 : decode cL_law 1300 = .ok (.iconst 1, 1) := by decide +kernel
theorem dL_law_1301 : decode cL_law 1301 = .ok (.ireturn, 1) := by decide +kernel
theorem zcw_L_13 : zCV R_law 13 11 yX11_feed cX11_feed 6 (some .int) 5 := ⟨RX11, TX11, 16, rfl, (List.forall_mem_cons.mpr ⟨(zm_9 _ (List.mem_of_getElem? (i := 15) rfl)), (List.forall_mem_cons.mpr ⟨(zm_9 _ (List.mem_of_getElem? (i := 16) rfl)), (List.forall_mem_cons.mpr ⟨(zm_9 _ (List.mem_of_getElem? (i := 17) rfl)), (List.forall_mem_cons.mpr ⟨(zm_1 _ (List.mem_of_getElem? (i := 2) rfl)), (List.forall_mem_cons.mpr ⟨(zm_9 _ (List.mem_of_getElem? (i := 18) rfl)), (fun _ h => absurd h List.not_mem_nil)⟩)⟩)⟩)⟩)⟩), ⟨rfl, by decide, by decide, by decide +kernel⟩, by decide⟩
theorem zcw_L_17 : zCV R_law 17 12 yX12_feed cX12_feed 6 (some .int) 5 := ⟨RX12, TX12, 46, rfl, (List.forall_mem_cons.mpr ⟨(zm_10 _ (List.mem_of_getElem? (i := 4) rfl)), (List.forall_mem_cons.mpr ⟨(zm_10 _ (List.mem_of_getElem? (i := 5) rfl)), (List.forall_mem_cons.mpr ⟨(zm_10 _ (List.mem_of_getElem? (i := 6) rfl)), (List.forall_mem_cons.mpr ⟨(zm_1 _ (List.mem_of_getElem? (i := 5) rfl)), (List.forall_mem_cons.mpr ⟨(zm_10 _ (List.mem_of_getElem? (i := 7) rfl)), (fun _ h => absurd h List.not_mem_nil)⟩)⟩)⟩)⟩)⟩), ⟨rfl, by decide, by decide, by decide +kernel⟩, by decide⟩
set_option maxRecDepth 100000 in
set_option maxHeartbeats 4000000 in
theorem zlaw_0 {E : ZEv} {a1 a2 : Nat → Nat} {G : ZLG} {b N : Nat} {xs : Nat → Int32} {cells slots : Nat} (h : zLu E a1 a2 G b N xs cells slots) {Rel : ZMem → ZMem → Prop} (hp : zPr_feed Rel) (x3 : Int32) (g1 : vp_in (x3 + 1) N) (g2 : vp_in (x3 + 2) N) (g3 : vp_in (x3 + 3) N) (g4 : vp_in (x3 + 4) N) (g5 : vp_in (x3 + 5) N) (hend : ∀ M1 M2 : ZMem, Rel M1 M2 → G M1 M2 1294 [(0, .ref b), (1, zrf (zad E a1) 0), (2, zrf (zad E a2) 0), (3, .int x3)] []) (M1 M2 : ZMem) (hR : Rel M1 M2) : G M1 M2 200 [(0, .ref b), (1, zrf (zad E a1) 0), (2, zrf (zad E a2) 0), (3, .int x3)] [] := by
  refine zl_aload_n h dL_law_200 1 rfl rfl ?_
  refine zl_aload_n h dL_law_201 0 rfl rfl ?_
  refine zl_iload_n h dL_law_202 3 rfl rfl ?_
  refine zl_iconst (v := 1) h dL_law_203 (by decide) ?_
  refine zl_iadd h dL_law_204 ?_
  refine zl_sld h g1 dL_law_205 ?_
  refine zl_aload_n h dL_law_206 0 rfl rfl ?_
  refine zl_iload_n h dL_law_207 3 rfl rfl ?_
  refine zl_iconst (v := 2) h dL_law_208 (by decide) ?_
  refine zl_iadd h dL_law_209 ?_
  refine zl_sld h g2 dL_law_210 ?_
  refine zl_aload_n h dL_law_211 0 rfl rfl ?_
  refine zl_iload_n h dL_law_212 3 rfl rfl ?_
  refine zl_iconst (v := 3) h dL_law_213 (by decide) ?_
  refine zl_iadd h dL_law_214 ?_
  refine zl_sld h g3 dL_law_215 ?_
  refine zl_aload_n h dL_law_216 0 rfl rfl ?_
  refine zl_iload_n h dL_law_217 3 rfl rfl ?_
  refine zl_iconst (v := 4) h dL_law_218 (by decide) ?_
  refine zl_iadd h dL_law_219 ?_
  refine zl_sld h g4 dL_law_220 ?_
  refine zl_aload_n h dL_law_221 0 rfl rfl ?_
  refine zl_iload_n h dL_law_222 3 rfl rfl ?_
  refine zl_iconst (v := 5) h dL_law_223 (by decide) ?_
  refine zl_iadd h dL_law_224 ?_
  refine zl_sld h g5 dL_law_225 ?_
  refine zl_call1m (As := [.int (xs (x3 + 1).toNatClampNeg), .int (xs (x3 + 2).toNatClampNeg), .int (xs (x3 + 3).toNatClampNeg), .int (xs (x3 + 4).toNatClampNeg), .int (xs (x3 + 5).toNatClampNeg)]) h lC_0 zcw_L_13 (c_X11_feed (zad E a1) M1 (xs (x3 + 1).toNatClampNeg) (xs (x3 + 2).toNatClampNeg) (xs (x3 + 3).toNatClampNeg) (xs (x3 + 4).toNatClampNeg) (xs (x3 + 5).toNatClampNeg) _ (hp M1 M2 (xs (x3 + 1).toNatClampNeg) (xs (x3 + 2).toNatClampNeg) (xs (x3 + 3).toNatClampNeg) (xs (x3 + 4).toNatClampNeg) (xs (x3 + 5).toNatClampNeg) hR)) (Nat.le_of_ble_eq_true rfl) rfl rfl (Nat.le_of_ble_eq_true rfl) dL_law_226 (fun r1 hk => ?_)
  refine zl_aload_n h dL_law_229 2 rfl rfl ?_
  refine zl_aload_n h dL_law_230 0 rfl rfl ?_
  refine zl_iload_n h dL_law_231 3 rfl rfl ?_
  refine zl_iconst (v := 1) h dL_law_232 (by decide) ?_
  refine zl_iadd h dL_law_233 ?_
  refine zl_sld h g1 dL_law_234 ?_
  refine zl_aload_n h dL_law_235 0 rfl rfl ?_
  refine zl_iload_n h dL_law_236 3 rfl rfl ?_
  refine zl_iconst (v := 2) h dL_law_237 (by decide) ?_
  refine zl_iadd h dL_law_238 ?_
  refine zl_sld h g2 dL_law_239 ?_
  refine zl_aload_n h dL_law_240 0 rfl rfl ?_
  refine zl_iload_n h dL_law_241 3 rfl rfl ?_
  refine zl_iconst (v := 3) h dL_law_242 (by decide) ?_
  refine zl_iadd h dL_law_243 ?_
  refine zl_sld h g3 dL_law_244 ?_
  refine zl_aload_n h dL_law_245 0 rfl rfl ?_
  refine zl_iload_n h dL_law_246 3 rfl rfl ?_
  refine zl_iconst (v := 4) h dL_law_247 (by decide) ?_
  refine zl_iadd h dL_law_248 ?_
  refine zl_sld h g4 dL_law_249 ?_
  refine zl_aload_n h dL_law_250 0 rfl rfl ?_
  refine zl_iload_n h dL_law_251 3 rfl rfl ?_
  refine zl_iconst (v := 5) h dL_law_252 (by decide) ?_
  refine zl_iadd h dL_law_253 ?_
  refine zl_sld h g5 dL_law_254 ?_
  refine zl_call2m (As := [.int (xs (x3 + 1).toNatClampNeg), .int (xs (x3 + 2).toNatClampNeg), .int (xs (x3 + 3).toNatClampNeg), .int (xs (x3 + 4).toNatClampNeg), .int (xs (x3 + 5).toNatClampNeg)]) h lR_0 zcw_L_17 (c_X12_feed (zad E a2) M2 (xs (x3 + 1).toNatClampNeg) (xs (x3 + 2).toNatClampNeg) (xs (x3 + 3).toNatClampNeg) (xs (x3 + 4).toNatClampNeg) (xs (x3 + 5).toNatClampNeg) _ hk) (Nat.le_of_ble_eq_true rfl) rfl rfl (Nat.le_of_ble_eq_true rfl) dL_law_255 (fun r2 hk => ?_)
  exact zl_icmp_eq (tgt := 1294) h dL_law_258 (by decide) (fun _ => hend r1.1 r2.1 hk.2) (fun z => absurd hk.1 z)
theorem zcw_L_18 : zCV R_law 18 11 yX11_end cX11_end 2 (some .int) 1 := ⟨RX11, TX11, 16, rfl, (List.forall_mem_cons.mpr ⟨(zm_10 _ (List.mem_of_getElem? (i := 13) rfl)), (List.forall_mem_cons.mpr ⟨(zm_10 _ (List.mem_of_getElem? (i := 14) rfl)), (List.forall_mem_cons.mpr ⟨(zm_10 _ (List.mem_of_getElem? (i := 15) rfl)), (List.forall_mem_cons.mpr ⟨(zm_1 _ (List.mem_of_getElem? (i := 2) rfl)), (List.forall_mem_cons.mpr ⟨(zm_10 _ (List.mem_of_getElem? (i := 16) rfl)), (fun _ h => absurd h List.not_mem_nil)⟩)⟩)⟩)⟩)⟩), ⟨rfl, by decide, by decide, by decide +kernel⟩, by decide⟩
theorem zcw_L_22 : zCV R_law 22 12 yX12_end cX12_end 2 (some .int) 1 := ⟨RX12, TX12, 46, rfl, (List.forall_mem_cons.mpr ⟨(zm_10 _ (List.mem_of_getElem? (i := 21) rfl)), (List.forall_mem_cons.mpr ⟨(zm_10 _ (List.mem_of_getElem? (i := 22) rfl)), (List.forall_mem_cons.mpr ⟨(zm_10 _ (List.mem_of_getElem? (i := 23) rfl)), (List.forall_mem_cons.mpr ⟨(zm_1 _ (List.mem_of_getElem? (i := 5) rfl)), (List.forall_mem_cons.mpr ⟨(zm_11 _ (List.mem_of_getElem? (i := 0) rfl)), (fun _ h => absurd h List.not_mem_nil)⟩)⟩)⟩)⟩)⟩), ⟨rfl, by decide, by decide, by decide +kernel⟩, by decide⟩
set_option maxRecDepth 100000 in
set_option maxHeartbeats 4000000 in
theorem zlaw_1 {E : ZEv} {a1 a2 : Nat → Nat} {G : ZLG} {b N : Nat} {xs : Nat → Int32} {cells slots : Nat} (h : zLu E a1 a2 G b N xs cells slots) {Rel : ZMem → ZMem → Prop} (hp : zPr_end Rel) (x3 : Int32) (g1 : vp_in (x3 + 1) N) (g2 : vp_in (x3 + 2) N) (g3 : vp_in (x3 + 3) N) (g4 : vp_in (x3 + 4) N) (g5 : vp_in (x3 + 5) N) (hend : ∀ M1 M2 : ZMem, Rel M1 M2 → G M1 M2 1294 [(0, .ref b), (1, zrf (zad E a1) 0), (2, zrf (zad E a2) 0), (3, .int x3)] []) (M1 M2 : ZMem) (hR : Rel M1 M2) : G M1 M2 263 [(0, .ref b), (1, zrf (zad E a1) 0), (2, zrf (zad E a2) 0), (3, .int x3)] [] := by
  refine zl_aload_n h dL_law_263 1 rfl rfl ?_
  refine zl_aload_n h dL_law_264 0 rfl rfl ?_
  refine zl_iload_n h dL_law_265 3 rfl rfl ?_
  refine zl_iconst (v := 1) h dL_law_266 (by decide) ?_
  refine zl_iadd h dL_law_267 ?_
  refine zl_sld h g1 dL_law_268 ?_
  refine zl_call1m (As := [.int (xs (x3 + 1).toNatClampNeg)]) h lC_0 zcw_L_18 (c_X11_end (zad E a1) M1 (xs (x3 + 1).toNatClampNeg) _ (hp M1 M2 (xs (x3 + 1).toNatClampNeg) hR)) (Nat.le_of_ble_eq_true rfl) rfl rfl (Nat.le_of_ble_eq_true rfl) dL_law_269 (fun r1 hk => ?_)
  refine zl_aload_n h dL_law_272 2 rfl rfl ?_
  refine zl_aload_n h dL_law_273 0 rfl rfl ?_
  refine zl_iload_n h dL_law_274 3 rfl rfl ?_
  refine zl_iconst (v := 1) h dL_law_275 (by decide) ?_
  refine zl_iadd h dL_law_276 ?_
  refine zl_sld h g1 dL_law_277 ?_
  refine zl_call2m (As := [.int (xs (x3 + 1).toNatClampNeg)]) h lR_0 zcw_L_22 (c_X12_end (zad E a2) M2 (xs (x3 + 1).toNatClampNeg) _ hk) (Nat.le_of_ble_eq_true rfl) rfl rfl (Nat.le_of_ble_eq_true rfl) dL_law_278 (fun r2 hk => ?_)
  exact zl_icmp_eq (tgt := 1294) h dL_law_281 (by decide) (fun _ => hend r1.1 r2.1 hk.2) (fun z => absurd hk.1 z)
theorem zcw_L_23 : zCV R_law 23 11 yX11_forms cX11_forms 2 (some .int) 0 := ⟨RX11, TX11, 16, rfl, (List.forall_mem_cons.mpr ⟨(zm_11 _ (List.mem_of_getElem? (i := 1) rfl)), (List.forall_mem_cons.mpr ⟨(zm_11 _ (List.mem_of_getElem? (i := 2) rfl)), (List.forall_mem_cons.mpr ⟨(zm_11 _ (List.mem_of_getElem? (i := 3) rfl)), (List.forall_mem_cons.mpr ⟨(zm_1 _ (List.mem_of_getElem? (i := 2) rfl)), (List.forall_mem_cons.mpr ⟨(zm_11 _ (List.mem_of_getElem? (i := 4) rfl)), (fun _ h => absurd h List.not_mem_nil)⟩)⟩)⟩)⟩)⟩), ⟨rfl, by decide, by decide, by decide +kernel⟩, by decide⟩
theorem zcw_L_27 : zCV R_law 27 12 yX12_forms cX12_forms 2 (some .int) 0 := ⟨RX12, TX12, 46, rfl, (List.forall_mem_cons.mpr ⟨(zm_14 _ (List.mem_of_getElem? (i := 12) rfl)), (List.forall_mem_cons.mpr ⟨(zm_14 _ (List.mem_of_getElem? (i := 13) rfl)), (List.forall_mem_cons.mpr ⟨(zm_14 _ (List.mem_of_getElem? (i := 14) rfl)), (List.forall_mem_cons.mpr ⟨(zm_1 _ (List.mem_of_getElem? (i := 5) rfl)), (List.forall_mem_cons.mpr ⟨(zm_14 _ (List.mem_of_getElem? (i := 15) rfl)), (fun _ h => absurd h List.not_mem_nil)⟩)⟩)⟩)⟩)⟩), ⟨rfl, by decide, by decide, by decide +kernel⟩, by decide⟩
set_option maxRecDepth 100000 in
set_option maxHeartbeats 4000000 in
theorem zlaw_2 {E : ZEv} {a1 a2 : Nat → Nat} {G : ZLG} {b N : Nat} {xs : Nat → Int32} {cells slots : Nat} (h : zLu E a1 a2 G b N xs cells slots) {Rel : ZMem → ZMem → Prop} (hp : zPr_forms Rel) (x3 : Int32) (g1 : vp_in (x3 + 1) N) (g2 : vp_in (x3 + 2) N) (g3 : vp_in (x3 + 3) N) (g4 : vp_in (x3 + 4) N) (g5 : vp_in (x3 + 5) N) (hend : ∀ M1 M2 : ZMem, Rel M1 M2 → G M1 M2 1294 [(0, .ref b), (1, zrf (zad E a1) 0), (2, zrf (zad E a2) 0), (3, .int x3)] []) (M1 M2 : ZMem) (hR : Rel M1 M2) : G M1 M2 286 [(0, .ref b), (1, zrf (zad E a1) 0), (2, zrf (zad E a2) 0), (3, .int x3)] [] := by
  refine zl_aload_n h dL_law_286 1 rfl rfl ?_
  refine zl_call1m (As := []) h lC_0 zcw_L_23 (c_X11_forms (zad E a1) M1 _ (hp M1 M2 hR)) (Nat.le_of_ble_eq_true rfl) rfl rfl (Nat.le_of_ble_eq_true rfl) dL_law_287 (fun r1 hk => ?_)
  refine zl_aload_n h dL_law_290 2 rfl rfl ?_
  refine zl_call2m (As := []) h lR_0 zcw_L_27 (c_X12_forms (zad E a2) M2 _ hk) (Nat.le_of_ble_eq_true rfl) rfl rfl (Nat.le_of_ble_eq_true rfl) dL_law_291 (fun r2 hk => ?_)
  exact zl_icmp_eq (tgt := 1294) h dL_law_294 (by decide) (fun _ => hend r1.1 r2.1 hk.2) (fun z => absurd hk.1 z)
theorem zcw_L_28 : zCV R_law 28 11 yX11_stone cX11_stone 2 (some .int) 0 := ⟨RX11, TX11, 16, rfl, (List.forall_mem_cons.mpr ⟨(zm_16 _ (List.mem_of_getElem? (i := 13) rfl)), (List.forall_mem_cons.mpr ⟨(zm_16 _ (List.mem_of_getElem? (i := 14) rfl)), (List.forall_mem_cons.mpr ⟨(zm_16 _ (List.mem_of_getElem? (i := 15) rfl)), (List.forall_mem_cons.mpr ⟨(zm_1 _ (List.mem_of_getElem? (i := 2) rfl)), (List.forall_mem_cons.mpr ⟨(zm_16 _ (List.mem_of_getElem? (i := 16) rfl)), (fun _ h => absurd h List.not_mem_nil)⟩)⟩)⟩)⟩)⟩), ⟨rfl, by decide, by decide, by decide +kernel⟩, by decide⟩
theorem zcw_L_31 : zCV R_law 31 12 yX12_stone cX12_stone 2 (some .int) 0 := ⟨RX12, TX12, 46, rfl, (List.forall_mem_cons.mpr ⟨(zm_18 _ (List.mem_of_getElem? (i := 8) rfl)), (List.forall_mem_cons.mpr ⟨(zm_18 _ (List.mem_of_getElem? (i := 9) rfl)), (List.forall_mem_cons.mpr ⟨(zm_18 _ (List.mem_of_getElem? (i := 10) rfl)), (List.forall_mem_cons.mpr ⟨(zm_1 _ (List.mem_of_getElem? (i := 5) rfl)), (List.forall_mem_cons.mpr ⟨(zm_18 _ (List.mem_of_getElem? (i := 11) rfl)), (fun _ h => absurd h List.not_mem_nil)⟩)⟩)⟩)⟩)⟩), ⟨rfl, by decide, by decide, by decide +kernel⟩, by decide⟩
set_option maxRecDepth 100000 in
set_option maxHeartbeats 4000000 in
theorem zlaw_3 {E : ZEv} {a1 a2 : Nat → Nat} {G : ZLG} {b N : Nat} {xs : Nat → Int32} {cells slots : Nat} (h : zLu E a1 a2 G b N xs cells slots) {Rel : ZMem → ZMem → Prop} (hp : zPr_stone Rel) (x3 : Int32) (g1 : vp_in (x3 + 1) N) (g2 : vp_in (x3 + 2) N) (g3 : vp_in (x3 + 3) N) (g4 : vp_in (x3 + 4) N) (g5 : vp_in (x3 + 5) N) (hend : ∀ M1 M2 : ZMem, Rel M1 M2 → G M1 M2 1294 [(0, .ref b), (1, zrf (zad E a1) 0), (2, zrf (zad E a2) 0), (3, .int x3)] []) (M1 M2 : ZMem) (hR : Rel M1 M2) : G M1 M2 299 [(0, .ref b), (1, zrf (zad E a1) 0), (2, zrf (zad E a2) 0), (3, .int x3)] [] := by
  refine zl_aload_n h dL_law_299 1 rfl rfl ?_
  refine zl_call1m (As := []) h lC_0 zcw_L_28 (c_X11_stone (zad E a1) M1 _ (hp M1 M2 hR)) (Nat.le_of_ble_eq_true rfl) rfl rfl (Nat.le_of_ble_eq_true rfl) dL_law_300 (fun r1 hk => ?_)
  refine zl_aload_n h dL_law_303 2 rfl rfl ?_
  refine zl_call2m (As := []) h lR_0 zcw_L_31 (c_X12_stone (zad E a2) M2 _ hk) (Nat.le_of_ble_eq_true rfl) rfl rfl (Nat.le_of_ble_eq_true rfl) dL_law_304 (fun r2 hk => ?_)
  exact zl_icmp_eq (tgt := 1294) h dL_law_307 (by decide) (fun _ => hend r1.1 r2.1 hk.2) (fun z => absurd hk.1 z)
theorem zcw_L_32 : zCV R_law 32 11 yX11_name cX11_name 2 (some .int) 0 := ⟨RX11, TX11, 16, rfl, (List.forall_mem_cons.mpr ⟨(zm_19 _ (List.mem_of_getElem? (i := 3) rfl)), (List.forall_mem_cons.mpr ⟨(zm_19 _ (List.mem_of_getElem? (i := 4) rfl)), (List.forall_mem_cons.mpr ⟨(zm_19 _ (List.mem_of_getElem? (i := 5) rfl)), (List.forall_mem_cons.mpr ⟨(zm_1 _ (List.mem_of_getElem? (i := 2) rfl)), (List.forall_mem_cons.mpr ⟨(zm_19 _ (List.mem_of_getElem? (i := 6) rfl)), (fun _ h => absurd h List.not_mem_nil)⟩)⟩)⟩)⟩)⟩), ⟨rfl, by decide, by decide, by decide +kernel⟩, by decide⟩
theorem zcw_L_35 : zCV R_law 35 12 yX12_name cX12_name 1 (some .int) 0 := ⟨RX12, TX12, 46, rfl, (List.forall_mem_cons.mpr ⟨(zm_23 _ (List.mem_of_getElem? (i := 17) rfl)), (List.forall_mem_cons.mpr ⟨(zm_23 _ (List.mem_of_getElem? (i := 18) rfl)), (List.forall_mem_cons.mpr ⟨(zm_23 _ (List.mem_of_getElem? (i := 19) rfl)), (List.forall_mem_cons.mpr ⟨(zm_1 _ (List.mem_of_getElem? (i := 5) rfl)), (List.forall_mem_cons.mpr ⟨(zm_23 _ (List.mem_of_getElem? (i := 20) rfl)), (fun _ h => absurd h List.not_mem_nil)⟩)⟩)⟩)⟩)⟩), ⟨rfl, by decide, by decide, by decide +kernel⟩, by decide⟩
set_option maxRecDepth 100000 in
set_option maxHeartbeats 4000000 in
theorem zlaw_4 {E : ZEv} {a1 a2 : Nat → Nat} {G : ZLG} {b N : Nat} {xs : Nat → Int32} {cells slots : Nat} (h : zLu E a1 a2 G b N xs cells slots) {Rel : ZMem → ZMem → Prop} (hp : zPr_name Rel) (x3 : Int32) (g1 : vp_in (x3 + 1) N) (g2 : vp_in (x3 + 2) N) (g3 : vp_in (x3 + 3) N) (g4 : vp_in (x3 + 4) N) (g5 : vp_in (x3 + 5) N) (hend : ∀ M1 M2 : ZMem, Rel M1 M2 → G M1 M2 1294 [(0, .ref b), (1, zrf (zad E a1) 0), (2, zrf (zad E a2) 0), (3, .int x3)] []) (M1 M2 : ZMem) (hR : Rel M1 M2) : G M1 M2 312 [(0, .ref b), (1, zrf (zad E a1) 0), (2, zrf (zad E a2) 0), (3, .int x3)] [] := by
  refine zl_aload_n h dL_law_312 1 rfl rfl ?_
  refine zl_call1m (As := []) h lC_0 zcw_L_32 (c_X11_name (zad E a1) M1 _ (hp M1 M2 hR)) (Nat.le_of_ble_eq_true rfl) rfl rfl (Nat.le_of_ble_eq_true rfl) dL_law_313 (fun r1 hk => ?_)
  refine zl_aload_n h dL_law_316 2 rfl rfl ?_
  refine zl_call2m (As := []) h lR_0 zcw_L_35 (c_X12_name (zad E a2) M2 _ hk) (Nat.le_of_ble_eq_true rfl) rfl rfl (Nat.le_of_ble_eq_true rfl) dL_law_317 (fun r2 hk => ?_)
  exact zl_icmp_eq (tgt := 1294) h dL_law_320 (by decide) (fun _ => hend r1.1 r2.1 hk.2) (fun z => absurd hk.1 z)
theorem zcw_L_36 : zCV R_law 36 11 yX11_unlike cX11_unlike 3 (some .int) 2 := ⟨RX11, TX11, 16, rfl, (List.forall_mem_cons.mpr ⟨(zm_25 _ (List.mem_of_getElem? (i := 7) rfl)), (List.forall_mem_cons.mpr ⟨(zm_25 _ (List.mem_of_getElem? (i := 8) rfl)), (List.forall_mem_cons.mpr ⟨(zm_25 _ (List.mem_of_getElem? (i := 9) rfl)), (List.forall_mem_cons.mpr ⟨(zm_1 _ (List.mem_of_getElem? (i := 2) rfl)), (List.forall_mem_cons.mpr ⟨(zm_25 _ (List.mem_of_getElem? (i := 10) rfl)), (fun _ h => absurd h List.not_mem_nil)⟩)⟩)⟩)⟩)⟩), ⟨rfl, by decide, by decide, by decide +kernel⟩, by decide⟩
theorem zcw_L_40 : zCV R_law 40 12 yX12_unlike cX12_unlike 3 (some .int) 2 := ⟨RX12, TX12, 46, rfl, (List.forall_mem_cons.mpr ⟨(zm_25 _ (List.mem_of_getElem? (i := 19) rfl)), (List.forall_mem_cons.mpr ⟨(zm_25 _ (List.mem_of_getElem? (i := 20) rfl)), (List.forall_mem_cons.mpr ⟨(zm_25 _ (List.mem_of_getElem? (i := 21) rfl)), (List.forall_mem_cons.mpr ⟨(zm_1 _ (List.mem_of_getElem? (i := 5) rfl)), (List.forall_mem_cons.mpr ⟨(zm_25 _ (List.mem_of_getElem? (i := 22) rfl)), (fun _ h => absurd h List.not_mem_nil)⟩)⟩)⟩)⟩)⟩), ⟨rfl, by decide, by decide, by decide +kernel⟩, by decide⟩
set_option maxRecDepth 100000 in
set_option maxHeartbeats 4000000 in
theorem zlaw_5 {E : ZEv} {a1 a2 : Nat → Nat} {G : ZLG} {b N : Nat} {xs : Nat → Int32} {cells slots : Nat} (h : zLu E a1 a2 G b N xs cells slots) {Rel : ZMem → ZMem → Prop} (hp : zPr_unlike Rel) (x3 : Int32) (g1 : vp_in (x3 + 1) N) (g2 : vp_in (x3 + 2) N) (g3 : vp_in (x3 + 3) N) (g4 : vp_in (x3 + 4) N) (g5 : vp_in (x3 + 5) N) (hend : ∀ M1 M2 : ZMem, Rel M1 M2 → G M1 M2 1294 [(0, .ref b), (1, zrf (zad E a1) 0), (2, zrf (zad E a2) 0), (3, .int x3)] []) (M1 M2 : ZMem) (hR : Rel M1 M2) : G M1 M2 325 [(0, .ref b), (1, zrf (zad E a1) 0), (2, zrf (zad E a2) 0), (3, .int x3)] [] := by
  refine zl_aload_n h dL_law_325 1 rfl rfl ?_
  refine zl_aload_n h dL_law_326 0 rfl rfl ?_
  refine zl_iload_n h dL_law_327 3 rfl rfl ?_
  refine zl_iconst (v := 1) h dL_law_328 (by decide) ?_
  refine zl_iadd h dL_law_329 ?_
  refine zl_sld h g1 dL_law_330 ?_
  refine zl_aload_n h dL_law_331 0 rfl rfl ?_
  refine zl_iload_n h dL_law_332 3 rfl rfl ?_
  refine zl_iconst (v := 2) h dL_law_333 (by decide) ?_
  refine zl_iadd h dL_law_334 ?_
  refine zl_sld h g2 dL_law_335 ?_
  refine zl_call1p (As := [.int (xs (x3 + 1).toNatClampNeg), .int (xs (x3 + 2).toNatClampNeg)]) h lC_0 zcw_L_36 (c_X11_unlike (zad E a1) M1 (xs (x3 + 1).toNatClampNeg) (xs (x3 + 2).toNatClampNeg) _ (hp M1 M2 (xs (x3 + 1).toNatClampNeg) (xs (x3 + 2).toNatClampNeg) hR)) (Nat.le_of_ble_eq_true rfl) rfl rfl (Nat.le_of_ble_eq_true rfl) dL_law_336 (fun r1 hk => ?_)
  refine zl_aload_n h dL_law_339 2 rfl rfl ?_
  refine zl_aload_n h dL_law_340 0 rfl rfl ?_
  refine zl_iload_n h dL_law_341 3 rfl rfl ?_
  refine zl_iconst (v := 1) h dL_law_342 (by decide) ?_
  refine zl_iadd h dL_law_343 ?_
  refine zl_sld h g1 dL_law_344 ?_
  refine zl_aload_n h dL_law_345 0 rfl rfl ?_
  refine zl_iload_n h dL_law_346 3 rfl rfl ?_
  refine zl_iconst (v := 2) h dL_law_347 (by decide) ?_
  refine zl_iadd h dL_law_348 ?_
  refine zl_sld h g2 dL_law_349 ?_
  refine zl_call2p (As := [.int (xs (x3 + 1).toNatClampNeg), .int (xs (x3 + 2).toNatClampNeg)]) h lR_0 zcw_L_40 (c_X12_unlike (zad E a2) M2 (xs (x3 + 1).toNatClampNeg) (xs (x3 + 2).toNatClampNeg) _ hk) (Nat.le_of_ble_eq_true rfl) rfl rfl (Nat.le_of_ble_eq_true rfl) dL_law_350 (fun r2 hk => ?_)
  exact zl_icmp_eq (tgt := 1294) h dL_law_353 (by decide) (fun _ => hend M1 M2 hk.2) (fun z => absurd hk.1 z)
theorem zcw_L_41 : zCV R_law 41 11 yX11_sign cX11_sign 2 (some .int) 1 := ⟨RX11, TX11, 16, rfl, (List.forall_mem_cons.mpr ⟨(zm_26 _ (List.mem_of_getElem? (i := 15) rfl)), (List.forall_mem_cons.mpr ⟨(zm_26 _ (List.mem_of_getElem? (i := 16) rfl)), (List.forall_mem_cons.mpr ⟨(zm_26 _ (List.mem_of_getElem? (i := 17) rfl)), (List.forall_mem_cons.mpr ⟨(zm_1 _ (List.mem_of_getElem? (i := 2) rfl)), (List.forall_mem_cons.mpr ⟨(zm_26 _ (List.mem_of_getElem? (i := 18) rfl)), (fun _ h => absurd h List.not_mem_nil)⟩)⟩)⟩)⟩)⟩), ⟨rfl, by decide, by decide, by decide +kernel⟩, by decide⟩
theorem zcw_L_44 : zCV R_law 44 12 yX12_sign_ cX12_sign_ 2 (some .int) 1 := ⟨RX12, TX12, 46, rfl, (List.forall_mem_cons.mpr ⟨(zm_35 _ (List.mem_of_getElem? (i := 3) rfl)), (List.forall_mem_cons.mpr ⟨(zm_35 _ (List.mem_of_getElem? (i := 4) rfl)), (List.forall_mem_cons.mpr ⟨(zm_35 _ (List.mem_of_getElem? (i := 5) rfl)), (List.forall_mem_cons.mpr ⟨(zm_1 _ (List.mem_of_getElem? (i := 5) rfl)), (List.forall_mem_cons.mpr ⟨(zm_35 _ (List.mem_of_getElem? (i := 6) rfl)), (fun _ h => absurd h List.not_mem_nil)⟩)⟩)⟩)⟩)⟩), ⟨rfl, by decide, by decide, by decide +kernel⟩, by decide⟩
set_option maxRecDepth 100000 in
set_option maxHeartbeats 4000000 in
theorem zlaw_6 {E : ZEv} {a1 a2 : Nat → Nat} {G : ZLG} {b N : Nat} {xs : Nat → Int32} {cells slots : Nat} (h : zLu E a1 a2 G b N xs cells slots) {Rel : ZMem → ZMem → Prop} (hp : zPr_sign Rel) (x3 : Int32) (g1 : vp_in (x3 + 1) N) (g2 : vp_in (x3 + 2) N) (g3 : vp_in (x3 + 3) N) (g4 : vp_in (x3 + 4) N) (g5 : vp_in (x3 + 5) N) (hend : ∀ M1 M2 : ZMem, Rel M1 M2 → G M1 M2 1294 [(0, .ref b), (1, zrf (zad E a1) 0), (2, zrf (zad E a2) 0), (3, .int x3)] []) (M1 M2 : ZMem) (hR : Rel M1 M2) : G M1 M2 358 [(0, .ref b), (1, zrf (zad E a1) 0), (2, zrf (zad E a2) 0), (3, .int x3)] [] := by
  refine zl_aload_n h dL_law_358 1 rfl rfl ?_
  refine zl_aload_n h dL_law_359 0 rfl rfl ?_
  refine zl_iload_n h dL_law_360 3 rfl rfl ?_
  refine zl_iconst (v := 1) h dL_law_361 (by decide) ?_
  refine zl_iadd h dL_law_362 ?_
  refine zl_sld h g1 dL_law_363 ?_
  refine zl_call1m (As := [.int (xs (x3 + 1).toNatClampNeg)]) h lC_0 zcw_L_41 (c_X11_sign (zad E a1) M1 (xs (x3 + 1).toNatClampNeg) _ (hp M1 M2 (xs (x3 + 1).toNatClampNeg) hR)) (Nat.le_of_ble_eq_true rfl) rfl rfl (Nat.le_of_ble_eq_true rfl) dL_law_364 (fun r1 hk => ?_)
  refine zl_aload_n h dL_law_367 2 rfl rfl ?_
  refine zl_aload_n h dL_law_368 0 rfl rfl ?_
  refine zl_iload_n h dL_law_369 3 rfl rfl ?_
  refine zl_iconst (v := 1) h dL_law_370 (by decide) ?_
  refine zl_iadd h dL_law_371 ?_
  refine zl_sld h g1 dL_law_372 ?_
  refine zl_call2m (As := [.int (xs (x3 + 1).toNatClampNeg)]) h lR_0 zcw_L_44 (c_X12_sign_ (zad E a2) M2 (xs (x3 + 1).toNatClampNeg) _ hk) (Nat.le_of_ble_eq_true rfl) rfl rfl (Nat.le_of_ble_eq_true rfl) dL_law_373 (fun r2 hk => ?_)
  exact zl_icmp_eq (tgt := 1294) h dL_law_376 (by decide) (fun _ => hend r1.1 r2.1 hk.2) (fun z => absurd hk.1 z)
theorem zcw_L_45 : zCV R_law 45 11 yX11_size cX11_size 2 (some .int) 1 := ⟨RX11, TX11, 16, rfl, (List.forall_mem_cons.mpr ⟨(zm_39 _ (List.mem_of_getElem? (i := 14) rfl)), (List.forall_mem_cons.mpr ⟨(zm_39 _ (List.mem_of_getElem? (i := 15) rfl)), (List.forall_mem_cons.mpr ⟨(zm_39 _ (List.mem_of_getElem? (i := 16) rfl)), (List.forall_mem_cons.mpr ⟨(zm_1 _ (List.mem_of_getElem? (i := 2) rfl)), (List.forall_mem_cons.mpr ⟨(zm_39 _ (List.mem_of_getElem? (i := 17) rfl)), (fun _ h => absurd h List.not_mem_nil)⟩)⟩)⟩)⟩)⟩), ⟨rfl, by decide, by decide, by decide +kernel⟩, by decide⟩
theorem zcw_L_48 : zCV R_law 48 12 yX12_size cX12_size 4 (some .int) 1 := ⟨RX12, TX12, 46, rfl, (List.forall_mem_cons.mpr ⟨(zm_39 _ (List.mem_of_getElem? (i := 22) rfl)), (List.forall_mem_cons.mpr ⟨(zm_39 _ (List.mem_of_getElem? (i := 23) rfl)), (List.forall_mem_cons.mpr ⟨(zm_40 _ (List.mem_of_getElem? (i := 0) rfl)), (List.forall_mem_cons.mpr ⟨(zm_1 _ (List.mem_of_getElem? (i := 5) rfl)), (List.forall_mem_cons.mpr ⟨(zm_40 _ (List.mem_of_getElem? (i := 1) rfl)), (fun _ h => absurd h List.not_mem_nil)⟩)⟩)⟩)⟩)⟩), ⟨rfl, by decide, by decide, by decide +kernel⟩, by decide⟩
set_option maxRecDepth 100000 in
set_option maxHeartbeats 4000000 in
theorem zlaw_7 {E : ZEv} {a1 a2 : Nat → Nat} {G : ZLG} {b N : Nat} {xs : Nat → Int32} {cells slots : Nat} (h : zLu E a1 a2 G b N xs cells slots) {Rel : ZMem → ZMem → Prop} (hp : zPr_size Rel) (x3 : Int32) (g1 : vp_in (x3 + 1) N) (g2 : vp_in (x3 + 2) N) (g3 : vp_in (x3 + 3) N) (g4 : vp_in (x3 + 4) N) (g5 : vp_in (x3 + 5) N) (hend : ∀ M1 M2 : ZMem, Rel M1 M2 → G M1 M2 1294 [(0, .ref b), (1, zrf (zad E a1) 0), (2, zrf (zad E a2) 0), (3, .int x3)] []) (M1 M2 : ZMem) (hR : Rel M1 M2) : G M1 M2 381 [(0, .ref b), (1, zrf (zad E a1) 0), (2, zrf (zad E a2) 0), (3, .int x3)] [] := by
  refine zl_aload_n h dL_law_381 1 rfl rfl ?_
  refine zl_aload_n h dL_law_382 0 rfl rfl ?_
  refine zl_iload_n h dL_law_383 3 rfl rfl ?_
  refine zl_iconst (v := 1) h dL_law_384 (by decide) ?_
  refine zl_iadd h dL_law_385 ?_
  refine zl_sld h g1 dL_law_386 ?_
  refine zl_call1m (As := [.int (xs (x3 + 1).toNatClampNeg)]) h lC_0 zcw_L_45 (c_X11_size (zad E a1) M1 (xs (x3 + 1).toNatClampNeg) _ (hp M1 M2 (xs (x3 + 1).toNatClampNeg) hR)) (Nat.le_of_ble_eq_true rfl) rfl rfl (Nat.le_of_ble_eq_true rfl) dL_law_387 (fun r1 hk => ?_)
  refine zl_aload_n h dL_law_390 2 rfl rfl ?_
  refine zl_aload_n h dL_law_391 0 rfl rfl ?_
  refine zl_iload_n h dL_law_392 3 rfl rfl ?_
  refine zl_iconst (v := 1) h dL_law_393 (by decide) ?_
  refine zl_iadd h dL_law_394 ?_
  refine zl_sld h g1 dL_law_395 ?_
  refine zl_call2m (As := [.int (xs (x3 + 1).toNatClampNeg)]) h lR_0 zcw_L_48 (c_X12_size (zad E a2) M2 (xs (x3 + 1).toNatClampNeg) _ hk) (Nat.le_of_ble_eq_true rfl) rfl rfl (Nat.le_of_ble_eq_true rfl) dL_law_396 (fun r2 hk => ?_)
  exact zl_icmp_eq (tgt := 1294) h dL_law_399 (by decide) (fun _ => hend r1.1 r2.1 hk.2) (fun z => absurd hk.1 z)
theorem zcw_L_49 : zCV R_law 49 11 yX11_tree cX11_tree 3 (some .int) 2 := ⟨RX11, TX11, 16, rfl, (List.forall_mem_cons.mpr ⟨(zm_40 _ (List.mem_of_getElem? (i := 2) rfl)), (List.forall_mem_cons.mpr ⟨(zm_40 _ (List.mem_of_getElem? (i := 3) rfl)), (List.forall_mem_cons.mpr ⟨(zm_40 _ (List.mem_of_getElem? (i := 4) rfl)), (List.forall_mem_cons.mpr ⟨(zm_1 _ (List.mem_of_getElem? (i := 2) rfl)), (List.forall_mem_cons.mpr ⟨(zm_40 _ (List.mem_of_getElem? (i := 5) rfl)), (fun _ h => absurd h List.not_mem_nil)⟩)⟩)⟩)⟩)⟩), ⟨rfl, by decide, by decide, by decide +kernel⟩, by decide⟩
theorem zcw_L_52 : zCV R_law 52 12 yX12_tree cX12_tree 7 (some .int) 2 := ⟨RX12, TX12, 46, rfl, (List.forall_mem_cons.mpr ⟨(zm_40 _ (List.mem_of_getElem? (i := 10) rfl)), (List.forall_mem_cons.mpr ⟨(zm_40 _ (List.mem_of_getElem? (i := 11) rfl)), (List.forall_mem_cons.mpr ⟨(zm_40 _ (List.mem_of_getElem? (i := 12) rfl)), (List.forall_mem_cons.mpr ⟨(zm_1 _ (List.mem_of_getElem? (i := 5) rfl)), (List.forall_mem_cons.mpr ⟨(zm_40 _ (List.mem_of_getElem? (i := 13) rfl)), (fun _ h => absurd h List.not_mem_nil)⟩)⟩)⟩)⟩)⟩), ⟨rfl, by decide, by decide, by decide +kernel⟩, by decide⟩
set_option maxRecDepth 100000 in
set_option maxHeartbeats 4000000 in
theorem zlaw_8 {E : ZEv} {a1 a2 : Nat → Nat} {G : ZLG} {b N : Nat} {xs : Nat → Int32} {cells slots : Nat} (h : zLu E a1 a2 G b N xs cells slots) {Rel : ZMem → ZMem → Prop} (hp : zPr_tree Rel) (x3 : Int32) (g1 : vp_in (x3 + 1) N) (g2 : vp_in (x3 + 2) N) (g3 : vp_in (x3 + 3) N) (g4 : vp_in (x3 + 4) N) (g5 : vp_in (x3 + 5) N) (hend : ∀ M1 M2 : ZMem, Rel M1 M2 → G M1 M2 1294 [(0, .ref b), (1, zrf (zad E a1) 0), (2, zrf (zad E a2) 0), (3, .int x3)] []) (M1 M2 : ZMem) (hR : Rel M1 M2) : G M1 M2 404 [(0, .ref b), (1, zrf (zad E a1) 0), (2, zrf (zad E a2) 0), (3, .int x3)] [] := by
  refine zl_aload_n h dL_law_404 1 rfl rfl ?_
  refine zl_aload_n h dL_law_405 0 rfl rfl ?_
  refine zl_iload_n h dL_law_406 3 rfl rfl ?_
  refine zl_iconst (v := 1) h dL_law_407 (by decide) ?_
  refine zl_iadd h dL_law_408 ?_
  refine zl_sld h g1 dL_law_409 ?_
  refine zl_aload_n h dL_law_410 0 rfl rfl ?_
  refine zl_iload_n h dL_law_411 3 rfl rfl ?_
  refine zl_iconst (v := 2) h dL_law_412 (by decide) ?_
  refine zl_iadd h dL_law_413 ?_
  refine zl_sld h g2 dL_law_414 ?_
  refine zl_call1p (As := [.int (xs (x3 + 1).toNatClampNeg), .int (xs (x3 + 2).toNatClampNeg)]) h lC_0 zcw_L_49 (c_X11_tree (zad E a1) M1 (xs (x3 + 1).toNatClampNeg) (xs (x3 + 2).toNatClampNeg) _ (hp M1 M2 (xs (x3 + 1).toNatClampNeg) (xs (x3 + 2).toNatClampNeg) hR)) (Nat.le_of_ble_eq_true rfl) rfl rfl (Nat.le_of_ble_eq_true rfl) dL_law_415 (fun r1 hk => ?_)
  refine zl_aload_n h dL_law_418 2 rfl rfl ?_
  refine zl_aload_n h dL_law_419 0 rfl rfl ?_
  refine zl_iload_n h dL_law_420 3 rfl rfl ?_
  refine zl_iconst (v := 1) h dL_law_421 (by decide) ?_
  refine zl_iadd h dL_law_422 ?_
  refine zl_sld h g1 dL_law_423 ?_
  refine zl_aload_n h dL_law_424 0 rfl rfl ?_
  refine zl_iload_n h dL_law_425 3 rfl rfl ?_
  refine zl_iconst (v := 2) h dL_law_426 (by decide) ?_
  refine zl_iadd h dL_law_427 ?_
  refine zl_sld h g2 dL_law_428 ?_
  refine zl_call2m (As := [.int (xs (x3 + 1).toNatClampNeg), .int (xs (x3 + 2).toNatClampNeg)]) h lR_0 zcw_L_52 (c_X12_tree (zad E a2) M2 (xs (x3 + 1).toNatClampNeg) (xs (x3 + 2).toNatClampNeg) _ hk) (Nat.le_of_ble_eq_true rfl) rfl rfl (Nat.le_of_ble_eq_true rfl) dL_law_429 (fun r2 hk => ?_)
  exact zl_icmp_eq (tgt := 1294) h dL_law_432 (by decide) (fun _ => hend M1 r2.1 hk.2) (fun z => absurd hk.1 z)
theorem zcw_L_53 : zCV R_law 53 11 yX11_loose cX11_loose 2 (some .int) 1 := ⟨RX11, TX11, 16, rfl, (List.forall_mem_cons.mpr ⟨(zm_40 _ (List.mem_of_getElem? (i := 18) rfl)), (List.forall_mem_cons.mpr ⟨(zm_40 _ (List.mem_of_getElem? (i := 19) rfl)), (List.forall_mem_cons.mpr ⟨(zm_40 _ (List.mem_of_getElem? (i := 20) rfl)), (List.forall_mem_cons.mpr ⟨(zm_1 _ (List.mem_of_getElem? (i := 2) rfl)), (List.forall_mem_cons.mpr ⟨(zm_40 _ (List.mem_of_getElem? (i := 21) rfl)), (fun _ h => absurd h List.not_mem_nil)⟩)⟩)⟩)⟩)⟩), ⟨rfl, by decide, by decide, by decide +kernel⟩, by decide⟩
theorem zcw_L_56 : zCV R_law 56 12 yX12_loose cX12_loose 2 (some .int) 1 := ⟨RX12, TX12, 46, rfl, (List.forall_mem_cons.mpr ⟨(zm_41 _ (List.mem_of_getElem? (i := 14) rfl)), (List.forall_mem_cons.mpr ⟨(zm_41 _ (List.mem_of_getElem? (i := 15) rfl)), (List.forall_mem_cons.mpr ⟨(zm_41 _ (List.mem_of_getElem? (i := 16) rfl)), (List.forall_mem_cons.mpr ⟨(zm_1 _ (List.mem_of_getElem? (i := 5) rfl)), (List.forall_mem_cons.mpr ⟨(zm_41 _ (List.mem_of_getElem? (i := 17) rfl)), (fun _ h => absurd h List.not_mem_nil)⟩)⟩)⟩)⟩)⟩), ⟨rfl, by decide, by decide, by decide +kernel⟩, by decide⟩
set_option maxRecDepth 100000 in
set_option maxHeartbeats 4000000 in
theorem zlaw_9 {E : ZEv} {a1 a2 : Nat → Nat} {G : ZLG} {b N : Nat} {xs : Nat → Int32} {cells slots : Nat} (h : zLu E a1 a2 G b N xs cells slots) {Rel : ZMem → ZMem → Prop} (hp : zPr_loose Rel) (x3 : Int32) (g1 : vp_in (x3 + 1) N) (g2 : vp_in (x3 + 2) N) (g3 : vp_in (x3 + 3) N) (g4 : vp_in (x3 + 4) N) (g5 : vp_in (x3 + 5) N) (hend : ∀ M1 M2 : ZMem, Rel M1 M2 → G M1 M2 1294 [(0, .ref b), (1, zrf (zad E a1) 0), (2, zrf (zad E a2) 0), (3, .int x3)] []) (M1 M2 : ZMem) (hR : Rel M1 M2) : G M1 M2 437 [(0, .ref b), (1, zrf (zad E a1) 0), (2, zrf (zad E a2) 0), (3, .int x3)] [] := by
  refine zl_aload_n h dL_law_437 1 rfl rfl ?_
  refine zl_aload_n h dL_law_438 0 rfl rfl ?_
  refine zl_iload_n h dL_law_439 3 rfl rfl ?_
  refine zl_iconst (v := 1) h dL_law_440 (by decide) ?_
  refine zl_iadd h dL_law_441 ?_
  refine zl_sld h g1 dL_law_442 ?_
  refine zl_call1m (As := [.int (xs (x3 + 1).toNatClampNeg)]) h lC_0 zcw_L_53 (c_X11_loose (zad E a1) M1 (xs (x3 + 1).toNatClampNeg) _ (hp M1 M2 (xs (x3 + 1).toNatClampNeg) hR)) (Nat.le_of_ble_eq_true rfl) rfl rfl (Nat.le_of_ble_eq_true rfl) dL_law_443 (fun r1 hk => ?_)
  refine zl_aload_n h dL_law_446 2 rfl rfl ?_
  refine zl_aload_n h dL_law_447 0 rfl rfl ?_
  refine zl_iload_n h dL_law_448 3 rfl rfl ?_
  refine zl_iconst (v := 1) h dL_law_449 (by decide) ?_
  refine zl_iadd h dL_law_450 ?_
  refine zl_sld h g1 dL_law_451 ?_
  refine zl_call2m (As := [.int (xs (x3 + 1).toNatClampNeg)]) h lR_0 zcw_L_56 (c_X12_loose (zad E a2) M2 (xs (x3 + 1).toNatClampNeg) _ hk) (Nat.le_of_ble_eq_true rfl) rfl rfl (Nat.le_of_ble_eq_true rfl) dL_law_452 (fun r2 hk => ?_)
  exact zl_icmp_eq (tgt := 1294) h dL_law_455 (by decide) (fun _ => hend r1.1 r2.1 hk.2) (fun z => absurd hk.1 z)
theorem zcw_L_57 : zCV R_law 57 11 yX11_alike cX11_alike 4 (some .boolean) 3 := ⟨RX11, TX11, 16, rfl, (List.forall_mem_cons.mpr ⟨(zm_42 _ (List.mem_of_getElem? (i := 2) rfl)), (List.forall_mem_cons.mpr ⟨(zm_42 _ (List.mem_of_getElem? (i := 3) rfl)), (List.forall_mem_cons.mpr ⟨(zm_42 _ (List.mem_of_getElem? (i := 4) rfl)), (List.forall_mem_cons.mpr ⟨(zm_1 _ (List.mem_of_getElem? (i := 2) rfl)), (List.forall_mem_cons.mpr ⟨(zm_42 _ (List.mem_of_getElem? (i := 5) rfl)), (fun _ h => absurd h List.not_mem_nil)⟩)⟩)⟩)⟩)⟩), ⟨rfl, by decide, by decide, by decide +kernel⟩, by decide⟩
theorem zcw_L_61 : zCV R_law 61 12 yX12_alike cX12_alike 4 (some .boolean) 3 := ⟨RX12, TX12, 46, rfl, (List.forall_mem_cons.mpr ⟨(zm_42 _ (List.mem_of_getElem? (i := 15) rfl)), (List.forall_mem_cons.mpr ⟨(zm_42 _ (List.mem_of_getElem? (i := 16) rfl)), (List.forall_mem_cons.mpr ⟨(zm_42 _ (List.mem_of_getElem? (i := 17) rfl)), (List.forall_mem_cons.mpr ⟨(zm_1 _ (List.mem_of_getElem? (i := 5) rfl)), (List.forall_mem_cons.mpr ⟨(zm_42 _ (List.mem_of_getElem? (i := 18) rfl)), (fun _ h => absurd h List.not_mem_nil)⟩)⟩)⟩)⟩)⟩), ⟨rfl, by decide, by decide, by decide +kernel⟩, by decide⟩
set_option maxRecDepth 100000 in
set_option maxHeartbeats 4000000 in
theorem zlaw_10 {E : ZEv} {a1 a2 : Nat → Nat} {G : ZLG} {b N : Nat} {xs : Nat → Int32} {cells slots : Nat} (h : zLu E a1 a2 G b N xs cells slots) {Rel : ZMem → ZMem → Prop} (hp : zPr_alike Rel) (x3 : Int32) (g1 : vp_in (x3 + 1) N) (g2 : vp_in (x3 + 2) N) (g3 : vp_in (x3 + 3) N) (g4 : vp_in (x3 + 4) N) (g5 : vp_in (x3 + 5) N) (hend : ∀ M1 M2 : ZMem, Rel M1 M2 → G M1 M2 1294 [(0, .ref b), (1, zrf (zad E a1) 0), (2, zrf (zad E a2) 0), (3, .int x3)] []) (M1 M2 : ZMem) (hR : Rel M1 M2) : G M1 M2 460 [(0, .ref b), (1, zrf (zad E a1) 0), (2, zrf (zad E a2) 0), (3, .int x3)] [] := by
  by_cases cz : xs (x3 + 3).toNatClampNeg = 0
  · refine zl_aload_n h dL_law_460 1 rfl rfl ?_
    refine zl_aload_n h dL_law_461 0 rfl rfl ?_
    refine zl_iload_n h dL_law_462 3 rfl rfl ?_
    refine zl_iconst (v := 1) h dL_law_463 (by decide) ?_
    refine zl_iadd h dL_law_464 ?_
    refine zl_sld h g1 dL_law_465 ?_
    refine zl_aload_n h dL_law_466 0 rfl rfl ?_
    refine zl_iload_n h dL_law_467 3 rfl rfl ?_
    refine zl_iconst (v := 2) h dL_law_468 (by decide) ?_
    refine zl_iadd h dL_law_469 ?_
    refine zl_sld h g2 dL_law_470 ?_
    refine zl_aload_n h dL_law_471 0 rfl rfl ?_
    refine zl_iload_n h dL_law_472 3 rfl rfl ?_
    refine zl_iconst (v := 3) h dL_law_473 (by decide) ?_
    refine zl_iadd h dL_law_474 ?_
    refine zl_sld h g3 dL_law_475 ?_
    refine zl_if_eq (tgt := 483) h dL_law_476 (by decide) (fun _ => ?_) (fun z => absurd cz z)
    refine zl_iconst (v := 0) h dL_law_483 (by decide) ?_
    refine zl_call1m (As := [.int (xs (x3 + 1).toNatClampNeg), .int (xs (x3 + 2).toNatClampNeg), .int 0]) h lC_0 zcw_L_57 (c_X11_alike (zad E a1) M1 (xs (x3 + 1).toNatClampNeg) (xs (x3 + 2).toNatClampNeg) 0 _ (hp M1 M2 (xs (x3 + 1).toNatClampNeg) (xs (x3 + 2).toNatClampNeg) 0 hR zisB_0)) (Nat.le_of_ble_eq_true rfl) rfl rfl (Nat.le_of_ble_eq_true rfl) dL_law_484 (fun r1 hk => ?_)
    refine zl_aload_n h dL_law_487 2 rfl rfl ?_
    refine zl_aload_n h dL_law_488 0 rfl rfl ?_
    refine zl_iload_n h dL_law_489 3 rfl rfl ?_
    refine zl_iconst (v := 1) h dL_law_490 (by decide) ?_
    refine zl_iadd h dL_law_491 ?_
    refine zl_sld h g1 dL_law_492 ?_
    refine zl_aload_n h dL_law_493 0 rfl rfl ?_
    refine zl_iload_n h dL_law_494 3 rfl rfl ?_
    refine zl_iconst (v := 2) h dL_law_495 (by decide) ?_
    refine zl_iadd h dL_law_496 ?_
    refine zl_sld h g2 dL_law_497 ?_
    refine zl_aload_n h dL_law_498 0 rfl rfl ?_
    refine zl_iload_n h dL_law_499 3 rfl rfl ?_
    refine zl_iconst (v := 3) h dL_law_500 (by decide) ?_
    refine zl_iadd h dL_law_501 ?_
    refine zl_sld h g3 dL_law_502 ?_
    refine zl_if_eq (tgt := 510) h dL_law_503 (by decide) (fun _ => ?_) (fun z => absurd cz z)
    refine zl_iconst (v := 0) h dL_law_510 (by decide) ?_
    refine zl_call2m (As := [.int (xs (x3 + 1).toNatClampNeg), .int (xs (x3 + 2).toNatClampNeg), .int 0]) h lR_0 zcw_L_61 (c_X12_alike (zad E a2) M2 (xs (x3 + 1).toNatClampNeg) (xs (x3 + 2).toNatClampNeg) 0 _ hk) (Nat.le_of_ble_eq_true rfl) rfl rfl (Nat.le_of_ble_eq_true rfl) dL_law_511 (fun r2 hk => ?_)
    exact zl_icmp_eq (tgt := 1294) h dL_law_514 (by decide) (fun _ => hend r1.1 r2.1 hk.2) (fun z => absurd hk.1 z)
  · refine zl_aload_n h dL_law_460 1 rfl rfl ?_
    refine zl_aload_n h dL_law_461 0 rfl rfl ?_
    refine zl_iload_n h dL_law_462 3 rfl rfl ?_
    refine zl_iconst (v := 1) h dL_law_463 (by decide) ?_
    refine zl_iadd h dL_law_464 ?_
    refine zl_sld h g1 dL_law_465 ?_
    refine zl_aload_n h dL_law_466 0 rfl rfl ?_
    refine zl_iload_n h dL_law_467 3 rfl rfl ?_
    refine zl_iconst (v := 2) h dL_law_468 (by decide) ?_
    refine zl_iadd h dL_law_469 ?_
    refine zl_sld h g2 dL_law_470 ?_
    refine zl_aload_n h dL_law_471 0 rfl rfl ?_
    refine zl_iload_n h dL_law_472 3 rfl rfl ?_
    refine zl_iconst (v := 3) h dL_law_473 (by decide) ?_
    refine zl_iadd h dL_law_474 ?_
    refine zl_sld h g3 dL_law_475 ?_
    refine zl_if_eq (tgt := 483) h dL_law_476 (by decide) (fun z => absurd z cz) (fun _ => ?_)
    refine zl_iconst (v := 1) h dL_law_479 (by decide) ?_
    refine zl_goto (tgt := 484) h dL_law_480 (by decide) ?_
    refine zl_call1m (As := [.int (xs (x3 + 1).toNatClampNeg), .int (xs (x3 + 2).toNatClampNeg), .int 1]) h lC_0 zcw_L_57 (c_X11_alike (zad E a1) M1 (xs (x3 + 1).toNatClampNeg) (xs (x3 + 2).toNatClampNeg) 1 _ (hp M1 M2 (xs (x3 + 1).toNatClampNeg) (xs (x3 + 2).toNatClampNeg) 1 hR zisB_1)) (Nat.le_of_ble_eq_true rfl) rfl rfl (Nat.le_of_ble_eq_true rfl) dL_law_484 (fun r1 hk => ?_)
    refine zl_aload_n h dL_law_487 2 rfl rfl ?_
    refine zl_aload_n h dL_law_488 0 rfl rfl ?_
    refine zl_iload_n h dL_law_489 3 rfl rfl ?_
    refine zl_iconst (v := 1) h dL_law_490 (by decide) ?_
    refine zl_iadd h dL_law_491 ?_
    refine zl_sld h g1 dL_law_492 ?_
    refine zl_aload_n h dL_law_493 0 rfl rfl ?_
    refine zl_iload_n h dL_law_494 3 rfl rfl ?_
    refine zl_iconst (v := 2) h dL_law_495 (by decide) ?_
    refine zl_iadd h dL_law_496 ?_
    refine zl_sld h g2 dL_law_497 ?_
    refine zl_aload_n h dL_law_498 0 rfl rfl ?_
    refine zl_iload_n h dL_law_499 3 rfl rfl ?_
    refine zl_iconst (v := 3) h dL_law_500 (by decide) ?_
    refine zl_iadd h dL_law_501 ?_
    refine zl_sld h g3 dL_law_502 ?_
    refine zl_if_eq (tgt := 510) h dL_law_503 (by decide) (fun z => absurd z cz) (fun _ => ?_)
    refine zl_iconst (v := 1) h dL_law_506 (by decide) ?_
    refine zl_goto (tgt := 511) h dL_law_507 (by decide) ?_
    refine zl_call2m (As := [.int (xs (x3 + 1).toNatClampNeg), .int (xs (x3 + 2).toNatClampNeg), .int 1]) h lR_0 zcw_L_61 (c_X12_alike (zad E a2) M2 (xs (x3 + 1).toNatClampNeg) (xs (x3 + 2).toNatClampNeg) 1 _ hk) (Nat.le_of_ble_eq_true rfl) rfl rfl (Nat.le_of_ble_eq_true rfl) dL_law_511 (fun r2 hk => ?_)
    exact zl_icmp_eq (tgt := 1294) h dL_law_514 (by decide) (fun _ => hend r1.1 r2.1 hk.2) (fun z => absurd hk.1 z)
theorem zcw_L_62 : zCV R_law 62 11 yX11_apart cX11_apart 4 (some .boolean) 3 := ⟨RX11, TX11, 16, rfl, (List.forall_mem_cons.mpr ⟨(zm_42 _ (List.mem_of_getElem? (i := 23) rfl)), (List.forall_mem_cons.mpr ⟨(zm_43 _ (List.mem_of_getElem? (i := 0) rfl)), (List.forall_mem_cons.mpr ⟨(zm_43 _ (List.mem_of_getElem? (i := 1) rfl)), (List.forall_mem_cons.mpr ⟨(zm_1 _ (List.mem_of_getElem? (i := 2) rfl)), (List.forall_mem_cons.mpr ⟨(zm_43 _ (List.mem_of_getElem? (i := 2) rfl)), (fun _ h => absurd h List.not_mem_nil)⟩)⟩)⟩)⟩)⟩), ⟨rfl, by decide, by decide, by decide +kernel⟩, by decide⟩
theorem zcw_L_65 : zCV R_law 65 12 yX12_apart cX12_apart 4 (some .boolean) 3 := ⟨RX12, TX12, 46, rfl, (List.forall_mem_cons.mpr ⟨(zm_43 _ (List.mem_of_getElem? (i := 3) rfl)), (List.forall_mem_cons.mpr ⟨(zm_43 _ (List.mem_of_getElem? (i := 4) rfl)), (List.forall_mem_cons.mpr ⟨(zm_43 _ (List.mem_of_getElem? (i := 5) rfl)), (List.forall_mem_cons.mpr ⟨(zm_1 _ (List.mem_of_getElem? (i := 5) rfl)), (List.forall_mem_cons.mpr ⟨(zm_43 _ (List.mem_of_getElem? (i := 6) rfl)), (fun _ h => absurd h List.not_mem_nil)⟩)⟩)⟩)⟩)⟩), ⟨rfl, by decide, by decide, by decide +kernel⟩, by decide⟩
set_option maxRecDepth 100000 in
set_option maxHeartbeats 4000000 in
theorem zlaw_11 {E : ZEv} {a1 a2 : Nat → Nat} {G : ZLG} {b N : Nat} {xs : Nat → Int32} {cells slots : Nat} (h : zLu E a1 a2 G b N xs cells slots) {Rel : ZMem → ZMem → Prop} (hp : zPr_apart Rel) (x3 : Int32) (g1 : vp_in (x3 + 1) N) (g2 : vp_in (x3 + 2) N) (g3 : vp_in (x3 + 3) N) (g4 : vp_in (x3 + 4) N) (g5 : vp_in (x3 + 5) N) (hend : ∀ M1 M2 : ZMem, Rel M1 M2 → G M1 M2 1294 [(0, .ref b), (1, zrf (zad E a1) 0), (2, zrf (zad E a2) 0), (3, .int x3)] []) (M1 M2 : ZMem) (hR : Rel M1 M2) : G M1 M2 519 [(0, .ref b), (1, zrf (zad E a1) 0), (2, zrf (zad E a2) 0), (3, .int x3)] [] := by
  by_cases cz : xs (x3 + 3).toNatClampNeg = 0
  · refine zl_aload_n h dL_law_519 1 rfl rfl ?_
    refine zl_aload_n h dL_law_520 0 rfl rfl ?_
    refine zl_iload_n h dL_law_521 3 rfl rfl ?_
    refine zl_iconst (v := 1) h dL_law_522 (by decide) ?_
    refine zl_iadd h dL_law_523 ?_
    refine zl_sld h g1 dL_law_524 ?_
    refine zl_aload_n h dL_law_525 0 rfl rfl ?_
    refine zl_iload_n h dL_law_526 3 rfl rfl ?_
    refine zl_iconst (v := 2) h dL_law_527 (by decide) ?_
    refine zl_iadd h dL_law_528 ?_
    refine zl_sld h g2 dL_law_529 ?_
    refine zl_aload_n h dL_law_530 0 rfl rfl ?_
    refine zl_iload_n h dL_law_531 3 rfl rfl ?_
    refine zl_iconst (v := 3) h dL_law_532 (by decide) ?_
    refine zl_iadd h dL_law_533 ?_
    refine zl_sld h g3 dL_law_534 ?_
    refine zl_if_eq (tgt := 542) h dL_law_535 (by decide) (fun _ => ?_) (fun z => absurd cz z)
    refine zl_iconst (v := 0) h dL_law_542 (by decide) ?_
    refine zl_call1m (As := [.int (xs (x3 + 1).toNatClampNeg), .int (xs (x3 + 2).toNatClampNeg), .int 0]) h lC_0 zcw_L_62 (c_X11_apart (zad E a1) M1 (xs (x3 + 1).toNatClampNeg) (xs (x3 + 2).toNatClampNeg) 0 _ (hp M1 M2 (xs (x3 + 1).toNatClampNeg) (xs (x3 + 2).toNatClampNeg) 0 hR zisB_0)) (Nat.le_of_ble_eq_true rfl) rfl rfl (Nat.le_of_ble_eq_true rfl) dL_law_543 (fun r1 hk => ?_)
    refine zl_aload_n h dL_law_546 2 rfl rfl ?_
    refine zl_aload_n h dL_law_547 0 rfl rfl ?_
    refine zl_iload_n h dL_law_548 3 rfl rfl ?_
    refine zl_iconst (v := 1) h dL_law_549 (by decide) ?_
    refine zl_iadd h dL_law_550 ?_
    refine zl_sld h g1 dL_law_551 ?_
    refine zl_aload_n h dL_law_552 0 rfl rfl ?_
    refine zl_iload_n h dL_law_553 3 rfl rfl ?_
    refine zl_iconst (v := 2) h dL_law_554 (by decide) ?_
    refine zl_iadd h dL_law_555 ?_
    refine zl_sld h g2 dL_law_556 ?_
    refine zl_aload_n h dL_law_557 0 rfl rfl ?_
    refine zl_iload_n h dL_law_558 3 rfl rfl ?_
    refine zl_iconst (v := 3) h dL_law_559 (by decide) ?_
    refine zl_iadd h dL_law_560 ?_
    refine zl_sld h g3 dL_law_561 ?_
    refine zl_if_eq (tgt := 569) h dL_law_562 (by decide) (fun _ => ?_) (fun z => absurd cz z)
    refine zl_iconst (v := 0) h dL_law_569 (by decide) ?_
    refine zl_call2m (As := [.int (xs (x3 + 1).toNatClampNeg), .int (xs (x3 + 2).toNatClampNeg), .int 0]) h lR_0 zcw_L_65 (c_X12_apart (zad E a2) M2 (xs (x3 + 1).toNatClampNeg) (xs (x3 + 2).toNatClampNeg) 0 _ hk) (Nat.le_of_ble_eq_true rfl) rfl rfl (Nat.le_of_ble_eq_true rfl) dL_law_570 (fun r2 hk => ?_)
    exact zl_icmp_eq (tgt := 1294) h dL_law_573 (by decide) (fun _ => hend r1.1 r2.1 hk.2) (fun z => absurd hk.1 z)
  · refine zl_aload_n h dL_law_519 1 rfl rfl ?_
    refine zl_aload_n h dL_law_520 0 rfl rfl ?_
    refine zl_iload_n h dL_law_521 3 rfl rfl ?_
    refine zl_iconst (v := 1) h dL_law_522 (by decide) ?_
    refine zl_iadd h dL_law_523 ?_
    refine zl_sld h g1 dL_law_524 ?_
    refine zl_aload_n h dL_law_525 0 rfl rfl ?_
    refine zl_iload_n h dL_law_526 3 rfl rfl ?_
    refine zl_iconst (v := 2) h dL_law_527 (by decide) ?_
    refine zl_iadd h dL_law_528 ?_
    refine zl_sld h g2 dL_law_529 ?_
    refine zl_aload_n h dL_law_530 0 rfl rfl ?_
    refine zl_iload_n h dL_law_531 3 rfl rfl ?_
    refine zl_iconst (v := 3) h dL_law_532 (by decide) ?_
    refine zl_iadd h dL_law_533 ?_
    refine zl_sld h g3 dL_law_534 ?_
    refine zl_if_eq (tgt := 542) h dL_law_535 (by decide) (fun z => absurd z cz) (fun _ => ?_)
    refine zl_iconst (v := 1) h dL_law_538 (by decide) ?_
    refine zl_goto (tgt := 543) h dL_law_539 (by decide) ?_
    refine zl_call1m (As := [.int (xs (x3 + 1).toNatClampNeg), .int (xs (x3 + 2).toNatClampNeg), .int 1]) h lC_0 zcw_L_62 (c_X11_apart (zad E a1) M1 (xs (x3 + 1).toNatClampNeg) (xs (x3 + 2).toNatClampNeg) 1 _ (hp M1 M2 (xs (x3 + 1).toNatClampNeg) (xs (x3 + 2).toNatClampNeg) 1 hR zisB_1)) (Nat.le_of_ble_eq_true rfl) rfl rfl (Nat.le_of_ble_eq_true rfl) dL_law_543 (fun r1 hk => ?_)
    refine zl_aload_n h dL_law_546 2 rfl rfl ?_
    refine zl_aload_n h dL_law_547 0 rfl rfl ?_
    refine zl_iload_n h dL_law_548 3 rfl rfl ?_
    refine zl_iconst (v := 1) h dL_law_549 (by decide) ?_
    refine zl_iadd h dL_law_550 ?_
    refine zl_sld h g1 dL_law_551 ?_
    refine zl_aload_n h dL_law_552 0 rfl rfl ?_
    refine zl_iload_n h dL_law_553 3 rfl rfl ?_
    refine zl_iconst (v := 2) h dL_law_554 (by decide) ?_
    refine zl_iadd h dL_law_555 ?_
    refine zl_sld h g2 dL_law_556 ?_
    refine zl_aload_n h dL_law_557 0 rfl rfl ?_
    refine zl_iload_n h dL_law_558 3 rfl rfl ?_
    refine zl_iconst (v := 3) h dL_law_559 (by decide) ?_
    refine zl_iadd h dL_law_560 ?_
    refine zl_sld h g3 dL_law_561 ?_
    refine zl_if_eq (tgt := 569) h dL_law_562 (by decide) (fun z => absurd z cz) (fun _ => ?_)
    refine zl_iconst (v := 1) h dL_law_565 (by decide) ?_
    refine zl_goto (tgt := 570) h dL_law_566 (by decide) ?_
    refine zl_call2m (As := [.int (xs (x3 + 1).toNatClampNeg), .int (xs (x3 + 2).toNatClampNeg), .int 1]) h lR_0 zcw_L_65 (c_X12_apart (zad E a2) M2 (xs (x3 + 1).toNatClampNeg) (xs (x3 + 2).toNatClampNeg) 1 _ hk) (Nat.le_of_ble_eq_true rfl) rfl rfl (Nat.le_of_ble_eq_true rfl) dL_law_570 (fun r2 hk => ?_)
    exact zl_icmp_eq (tgt := 1294) h dL_law_573 (by decide) (fun _ => hend r1.1 r2.1 hk.2) (fun z => absurd hk.1 z)
theorem zcw_L_66 : zCV R_law 66 11 yX11_way cX11_way 2 (some .int) 1 := ⟨RX11, TX11, 16, rfl, (List.forall_mem_cons.mpr ⟨(zm_43 _ (List.mem_of_getElem? (i := 7) rfl)), (List.forall_mem_cons.mpr ⟨(zm_43 _ (List.mem_of_getElem? (i := 8) rfl)), (List.forall_mem_cons.mpr ⟨(zm_43 _ (List.mem_of_getElem? (i := 9) rfl)), (List.forall_mem_cons.mpr ⟨(zm_1 _ (List.mem_of_getElem? (i := 2) rfl)), (List.forall_mem_cons.mpr ⟨(zm_43 _ (List.mem_of_getElem? (i := 10) rfl)), (fun _ h => absurd h List.not_mem_nil)⟩)⟩)⟩)⟩)⟩), ⟨rfl, by decide, by decide, by decide +kernel⟩, by decide⟩
theorem zcw_L_69 : zCV R_law 69 12 yX12_way cX12_way 2 (some .int) 1 := ⟨RX12, TX12, 46, rfl, (List.forall_mem_cons.mpr ⟨(zm_43 _ (List.mem_of_getElem? (i := 11) rfl)), (List.forall_mem_cons.mpr ⟨(zm_43 _ (List.mem_of_getElem? (i := 12) rfl)), (List.forall_mem_cons.mpr ⟨(zm_43 _ (List.mem_of_getElem? (i := 13) rfl)), (List.forall_mem_cons.mpr ⟨(zm_1 _ (List.mem_of_getElem? (i := 5) rfl)), (List.forall_mem_cons.mpr ⟨(zm_43 _ (List.mem_of_getElem? (i := 14) rfl)), (fun _ h => absurd h List.not_mem_nil)⟩)⟩)⟩)⟩)⟩), ⟨rfl, by decide, by decide, by decide +kernel⟩, by decide⟩
set_option maxRecDepth 100000 in
set_option maxHeartbeats 4000000 in
theorem zlaw_12 {E : ZEv} {a1 a2 : Nat → Nat} {G : ZLG} {b N : Nat} {xs : Nat → Int32} {cells slots : Nat} (h : zLu E a1 a2 G b N xs cells slots) {Rel : ZMem → ZMem → Prop} (hp : zPr_way Rel) (x3 : Int32) (g1 : vp_in (x3 + 1) N) (g2 : vp_in (x3 + 2) N) (g3 : vp_in (x3 + 3) N) (g4 : vp_in (x3 + 4) N) (g5 : vp_in (x3 + 5) N) (hend : ∀ M1 M2 : ZMem, Rel M1 M2 → G M1 M2 1294 [(0, .ref b), (1, zrf (zad E a1) 0), (2, zrf (zad E a2) 0), (3, .int x3)] []) (M1 M2 : ZMem) (hR : Rel M1 M2) : G M1 M2 578 [(0, .ref b), (1, zrf (zad E a1) 0), (2, zrf (zad E a2) 0), (3, .int x3)] [] := by
  refine zl_aload_n h dL_law_578 1 rfl rfl ?_
  refine zl_aload_n h dL_law_579 0 rfl rfl ?_
  refine zl_iload_n h dL_law_580 3 rfl rfl ?_
  refine zl_iconst (v := 1) h dL_law_581 (by decide) ?_
  refine zl_iadd h dL_law_582 ?_
  refine zl_sld h g1 dL_law_583 ?_
  refine zl_call1m (As := [.int (xs (x3 + 1).toNatClampNeg)]) h lC_0 zcw_L_66 (c_X11_way (zad E a1) M1 (xs (x3 + 1).toNatClampNeg) _ (hp M1 M2 (xs (x3 + 1).toNatClampNeg) hR)) (Nat.le_of_ble_eq_true rfl) rfl rfl (Nat.le_of_ble_eq_true rfl) dL_law_584 (fun r1 hk => ?_)
  refine zl_aload_n h dL_law_587 2 rfl rfl ?_
  refine zl_aload_n h dL_law_588 0 rfl rfl ?_
  refine zl_iload_n h dL_law_589 3 rfl rfl ?_
  refine zl_iconst (v := 1) h dL_law_590 (by decide) ?_
  refine zl_iadd h dL_law_591 ?_
  refine zl_sld h g1 dL_law_592 ?_
  refine zl_call2m (As := [.int (xs (x3 + 1).toNatClampNeg)]) h lR_0 zcw_L_69 (c_X12_way (zad E a2) M2 (xs (x3 + 1).toNatClampNeg) _ hk) (Nat.le_of_ble_eq_true rfl) rfl rfl (Nat.le_of_ble_eq_true rfl) dL_law_593 (fun r2 hk => ?_)
  exact zl_icmp_eq (tgt := 1294) h dL_law_596 (by decide) (fun _ => hend r1.1 r2.1 hk.2) (fun z => absurd hk.1 z)
theorem zcw_L_70 : zCV R_law 70 11 yX11_judged cX11_judged 2 (some .int) 1 := ⟨RX11, TX11, 16, rfl, (List.forall_mem_cons.mpr ⟨(zm_43 _ (List.mem_of_getElem? (i := 15) rfl)), (List.forall_mem_cons.mpr ⟨(zm_43 _ (List.mem_of_getElem? (i := 16) rfl)), (List.forall_mem_cons.mpr ⟨(zm_43 _ (List.mem_of_getElem? (i := 17) rfl)), (List.forall_mem_cons.mpr ⟨(zm_1 _ (List.mem_of_getElem? (i := 2) rfl)), (List.forall_mem_cons.mpr ⟨(zm_43 _ (List.mem_of_getElem? (i := 18) rfl)), (fun _ h => absurd h List.not_mem_nil)⟩)⟩)⟩)⟩)⟩), ⟨rfl, by decide, by decide, by decide +kernel⟩, by decide⟩
theorem zcw_L_73 : zCV R_law 73 12 yX12_judged cX12_judged 2 (some .int) 1 := ⟨RX12, TX12, 46, rfl, (List.forall_mem_cons.mpr ⟨(zm_43 _ (List.mem_of_getElem? (i := 20) rfl)), (List.forall_mem_cons.mpr ⟨(zm_43 _ (List.mem_of_getElem? (i := 21) rfl)), (List.forall_mem_cons.mpr ⟨(zm_43 _ (List.mem_of_getElem? (i := 22) rfl)), (List.forall_mem_cons.mpr ⟨(zm_1 _ (List.mem_of_getElem? (i := 5) rfl)), (List.forall_mem_cons.mpr ⟨(zm_43 _ (List.mem_of_getElem? (i := 23) rfl)), (fun _ h => absurd h List.not_mem_nil)⟩)⟩)⟩)⟩)⟩), ⟨rfl, by decide, by decide, by decide +kernel⟩, by decide⟩
set_option maxRecDepth 100000 in
set_option maxHeartbeats 4000000 in
theorem zlaw_13 {E : ZEv} {a1 a2 : Nat → Nat} {G : ZLG} {b N : Nat} {xs : Nat → Int32} {cells slots : Nat} (h : zLu E a1 a2 G b N xs cells slots) {Rel : ZMem → ZMem → Prop} (hp : zPr_judged Rel) (x3 : Int32) (g1 : vp_in (x3 + 1) N) (g2 : vp_in (x3 + 2) N) (g3 : vp_in (x3 + 3) N) (g4 : vp_in (x3 + 4) N) (g5 : vp_in (x3 + 5) N) (hend : ∀ M1 M2 : ZMem, Rel M1 M2 → G M1 M2 1294 [(0, .ref b), (1, zrf (zad E a1) 0), (2, zrf (zad E a2) 0), (3, .int x3)] []) (M1 M2 : ZMem) (hR : Rel M1 M2) : G M1 M2 601 [(0, .ref b), (1, zrf (zad E a1) 0), (2, zrf (zad E a2) 0), (3, .int x3)] [] := by
  refine zl_aload_n h dL_law_601 1 rfl rfl ?_
  refine zl_aload_n h dL_law_602 0 rfl rfl ?_
  refine zl_iload_n h dL_law_603 3 rfl rfl ?_
  refine zl_iconst (v := 1) h dL_law_604 (by decide) ?_
  refine zl_iadd h dL_law_605 ?_
  refine zl_sld h g1 dL_law_606 ?_
  refine zl_call1m (As := [.int (xs (x3 + 1).toNatClampNeg)]) h lC_0 zcw_L_70 (c_X11_judged (zad E a1) M1 (xs (x3 + 1).toNatClampNeg) _ (hp M1 M2 (xs (x3 + 1).toNatClampNeg) hR)) (Nat.le_of_ble_eq_true rfl) rfl rfl (Nat.le_of_ble_eq_true rfl) dL_law_607 (fun r1 hk => ?_)
  refine zl_aload_n h dL_law_610 2 rfl rfl ?_
  refine zl_aload_n h dL_law_611 0 rfl rfl ?_
  refine zl_iload_n h dL_law_612 3 rfl rfl ?_
  refine zl_iconst (v := 1) h dL_law_613 (by decide) ?_
  refine zl_iadd h dL_law_614 ?_
  refine zl_sld h g1 dL_law_615 ?_
  refine zl_call2m (As := [.int (xs (x3 + 1).toNatClampNeg)]) h lR_0 zcw_L_73 (c_X12_judged (zad E a2) M2 (xs (x3 + 1).toNatClampNeg) _ hk) (Nat.le_of_ble_eq_true rfl) rfl rfl (Nat.le_of_ble_eq_true rfl) dL_law_616 (fun r2 hk => ?_)
  exact zl_icmp_eq (tgt := 1294) h dL_law_619 (by decide) (fun _ => hend r1.1 r2.1 hk.2) (fun z => absurd hk.1 z)
theorem zcw_L_74 : zCV R_law 74 11 yX11_read cX11_read 5 (some .int) 3 := ⟨RX11, TX11, 16, rfl, (List.forall_mem_cons.mpr ⟨(zm_44 _ (List.mem_of_getElem? (i := 0) rfl)), (List.forall_mem_cons.mpr ⟨(zm_44 _ (List.mem_of_getElem? (i := 1) rfl)), (List.forall_mem_cons.mpr ⟨(zm_44 _ (List.mem_of_getElem? (i := 2) rfl)), (List.forall_mem_cons.mpr ⟨(zm_1 _ (List.mem_of_getElem? (i := 2) rfl)), (List.forall_mem_cons.mpr ⟨(zm_44 _ (List.mem_of_getElem? (i := 3) rfl)), (fun _ h => absurd h List.not_mem_nil)⟩)⟩)⟩)⟩)⟩), ⟨rfl, by decide, by decide, by decide +kernel⟩, by decide⟩
theorem zcw_L_78 : zCV R_law 78 12 yX12_read cX12_read 6 (some .int) 3 := ⟨RX12, TX12, 46, rfl, (List.forall_mem_cons.mpr ⟨(zm_44 _ (List.mem_of_getElem? (i := 7) rfl)), (List.forall_mem_cons.mpr ⟨(zm_44 _ (List.mem_of_getElem? (i := 8) rfl)), (List.forall_mem_cons.mpr ⟨(zm_44 _ (List.mem_of_getElem? (i := 9) rfl)), (List.forall_mem_cons.mpr ⟨(zm_1 _ (List.mem_of_getElem? (i := 5) rfl)), (List.forall_mem_cons.mpr ⟨(zm_44 _ (List.mem_of_getElem? (i := 10) rfl)), (fun _ h => absurd h List.not_mem_nil)⟩)⟩)⟩)⟩)⟩), ⟨rfl, by decide, by decide, by decide +kernel⟩, by decide⟩
set_option maxRecDepth 100000 in
set_option maxHeartbeats 4000000 in
theorem zlaw_14 {E : ZEv} {a1 a2 : Nat → Nat} {G : ZLG} {b N : Nat} {xs : Nat → Int32} {cells slots : Nat} (h : zLu E a1 a2 G b N xs cells slots) {Rel : ZMem → ZMem → Prop} (hp : zPr_read Rel) (x3 : Int32) (g1 : vp_in (x3 + 1) N) (g2 : vp_in (x3 + 2) N) (g3 : vp_in (x3 + 3) N) (g4 : vp_in (x3 + 4) N) (g5 : vp_in (x3 + 5) N) (hend : ∀ M1 M2 : ZMem, Rel M1 M2 → G M1 M2 1294 [(0, .ref b), (1, zrf (zad E a1) 0), (2, zrf (zad E a2) 0), (3, .int x3)] []) (M1 M2 : ZMem) (hR : Rel M1 M2) : G M1 M2 624 [(0, .ref b), (1, zrf (zad E a1) 0), (2, zrf (zad E a2) 0), (3, .int x3)] [] := by
  refine zl_aload_n h dL_law_624 1 rfl rfl ?_
  refine zl_aload_n h dL_law_625 0 rfl rfl ?_
  refine zl_iload_n h dL_law_626 3 rfl rfl ?_
  refine zl_iconst (v := 1) h dL_law_627 (by decide) ?_
  refine zl_iadd h dL_law_628 ?_
  refine zl_sld h g1 dL_law_629 ?_
  refine zl_aload_n h dL_law_630 0 rfl rfl ?_
  refine zl_iload_n h dL_law_631 3 rfl rfl ?_
  refine zl_iconst (v := 2) h dL_law_632 (by decide) ?_
  refine zl_iadd h dL_law_633 ?_
  refine zl_sld h g2 dL_law_634 ?_
  refine zl_aload_n h dL_law_635 0 rfl rfl ?_
  refine zl_iload_n h dL_law_636 3 rfl rfl ?_
  refine zl_iconst (v := 3) h dL_law_637 (by decide) ?_
  refine zl_iadd h dL_law_638 ?_
  refine zl_sld h g3 dL_law_639 ?_
  refine zl_call1m (As := [.int (xs (x3 + 1).toNatClampNeg), .int (xs (x3 + 2).toNatClampNeg), .int (xs (x3 + 3).toNatClampNeg)]) h lC_0 zcw_L_74 (c_X11_read (zad E a1) M1 (xs (x3 + 1).toNatClampNeg) (xs (x3 + 2).toNatClampNeg) (xs (x3 + 3).toNatClampNeg) _ (hp M1 M2 (xs (x3 + 1).toNatClampNeg) (xs (x3 + 2).toNatClampNeg) (xs (x3 + 3).toNatClampNeg) hR)) (Nat.le_of_ble_eq_true rfl) rfl rfl (Nat.le_of_ble_eq_true rfl) dL_law_640 (fun r1 hk => ?_)
  refine zl_aload_n h dL_law_643 2 rfl rfl ?_
  refine zl_aload_n h dL_law_644 0 rfl rfl ?_
  refine zl_iload_n h dL_law_645 3 rfl rfl ?_
  refine zl_iconst (v := 1) h dL_law_646 (by decide) ?_
  refine zl_iadd h dL_law_647 ?_
  refine zl_sld h g1 dL_law_648 ?_
  refine zl_aload_n h dL_law_649 0 rfl rfl ?_
  refine zl_iload_n h dL_law_650 3 rfl rfl ?_
  refine zl_iconst (v := 2) h dL_law_651 (by decide) ?_
  refine zl_iadd h dL_law_652 ?_
  refine zl_sld h g2 dL_law_653 ?_
  refine zl_aload_n h dL_law_654 0 rfl rfl ?_
  refine zl_iload_n h dL_law_655 3 rfl rfl ?_
  refine zl_iconst (v := 3) h dL_law_656 (by decide) ?_
  refine zl_iadd h dL_law_657 ?_
  refine zl_sld h g3 dL_law_658 ?_
  refine zl_call2m (As := [.int (xs (x3 + 1).toNatClampNeg), .int (xs (x3 + 2).toNatClampNeg), .int (xs (x3 + 3).toNatClampNeg)]) h lR_0 zcw_L_78 (c_X12_read (zad E a2) M2 (xs (x3 + 1).toNatClampNeg) (xs (x3 + 2).toNatClampNeg) (xs (x3 + 3).toNatClampNeg) _ hk) (Nat.le_of_ble_eq_true rfl) rfl rfl (Nat.le_of_ble_eq_true rfl) dL_law_659 (fun r2 hk => ?_)
  exact zl_icmp_eq (tgt := 1294) h dL_law_662 (by decide) (fun _ => hend r1.1 r2.1 hk.2) (fun z => absurd hk.1 z)
theorem zcw_L_79 : zCV R_law 79 11 yX11_comes cX11_comes 1 (some .int) 0 := ⟨RX11, TX11, 16, rfl, (List.forall_mem_cons.mpr ⟨(zm_44 _ (List.mem_of_getElem? (i := 11) rfl)), (List.forall_mem_cons.mpr ⟨(zm_44 _ (List.mem_of_getElem? (i := 12) rfl)), (List.forall_mem_cons.mpr ⟨(zm_44 _ (List.mem_of_getElem? (i := 13) rfl)), (List.forall_mem_cons.mpr ⟨(zm_1 _ (List.mem_of_getElem? (i := 2) rfl)), (List.forall_mem_cons.mpr ⟨(zm_44 _ (List.mem_of_getElem? (i := 14) rfl)), (fun _ h => absurd h List.not_mem_nil)⟩)⟩)⟩)⟩)⟩), ⟨rfl, by decide, by decide, by decide +kernel⟩, by decide⟩
theorem zcw_L_82 : zCV R_law 82 12 yX12_comes cX12_comes 2 (some .int) 0 := ⟨RX12, TX12, 46, rfl, (List.forall_mem_cons.mpr ⟨(zm_45 _ (List.mem_of_getElem? (i := 3) rfl)), (List.forall_mem_cons.mpr ⟨(zm_45 _ (List.mem_of_getElem? (i := 4) rfl)), (List.forall_mem_cons.mpr ⟨(zm_45 _ (List.mem_of_getElem? (i := 5) rfl)), (List.forall_mem_cons.mpr ⟨(zm_1 _ (List.mem_of_getElem? (i := 5) rfl)), (List.forall_mem_cons.mpr ⟨(zm_45 _ (List.mem_of_getElem? (i := 6) rfl)), (fun _ h => absurd h List.not_mem_nil)⟩)⟩)⟩)⟩)⟩), ⟨rfl, by decide, by decide, by decide +kernel⟩, by decide⟩
set_option maxRecDepth 100000 in
set_option maxHeartbeats 4000000 in
theorem zlaw_15 {E : ZEv} {a1 a2 : Nat → Nat} {G : ZLG} {b N : Nat} {xs : Nat → Int32} {cells slots : Nat} (h : zLu E a1 a2 G b N xs cells slots) {Rel : ZMem → ZMem → Prop} (hp : zPr_comes Rel) (x3 : Int32) (g1 : vp_in (x3 + 1) N) (g2 : vp_in (x3 + 2) N) (g3 : vp_in (x3 + 3) N) (g4 : vp_in (x3 + 4) N) (g5 : vp_in (x3 + 5) N) (hend : ∀ M1 M2 : ZMem, Rel M1 M2 → G M1 M2 1294 [(0, .ref b), (1, zrf (zad E a1) 0), (2, zrf (zad E a2) 0), (3, .int x3)] []) (M1 M2 : ZMem) (hR : Rel M1 M2) : G M1 M2 667 [(0, .ref b), (1, zrf (zad E a1) 0), (2, zrf (zad E a2) 0), (3, .int x3)] [] := by
  refine zl_aload_n h dL_law_667 1 rfl rfl ?_
  refine zl_call1m (As := []) h lC_0 zcw_L_79 (c_X11_comes (zad E a1) M1 _ (hp M1 M2 hR)) (Nat.le_of_ble_eq_true rfl) rfl rfl (Nat.le_of_ble_eq_true rfl) dL_law_668 (fun r1 hk => ?_)
  refine zl_aload_n h dL_law_671 2 rfl rfl ?_
  refine zl_call2m (As := []) h lR_0 zcw_L_82 (c_X12_comes (zad E a2) M2 _ hk) (Nat.le_of_ble_eq_true rfl) rfl rfl (Nat.le_of_ble_eq_true rfl) dL_law_672 (fun r2 hk => ?_)
  exact zl_icmp_eq (tgt := 1294) h dL_law_675 (by decide) (fun _ => hend r1.1 r2.1 hk.2) (fun z => absurd hk.1 z)
theorem zcw_L_83 : zCV R_law 83 11 yX11_next cX11_next 1 (some .int) 0 := ⟨RX11, TX11, 16, rfl, (List.forall_mem_cons.mpr ⟨(zm_45 _ (List.mem_of_getElem? (i := 15) rfl)), (List.forall_mem_cons.mpr ⟨(zm_45 _ (List.mem_of_getElem? (i := 16) rfl)), (List.forall_mem_cons.mpr ⟨(zm_45 _ (List.mem_of_getElem? (i := 17) rfl)), (List.forall_mem_cons.mpr ⟨(zm_1 _ (List.mem_of_getElem? (i := 2) rfl)), (List.forall_mem_cons.mpr ⟨(zm_45 _ (List.mem_of_getElem? (i := 18) rfl)), (fun _ h => absurd h List.not_mem_nil)⟩)⟩)⟩)⟩)⟩), ⟨rfl, by decide, by decide, by decide +kernel⟩, by decide⟩
theorem zcw_L_86 : zCV R_law 86 12 yX12_next cX12_next 2 (some .int) 0 := ⟨RX12, TX12, 46, rfl, (List.forall_mem_cons.mpr ⟨(zm_45 _ (List.mem_of_getElem? (i := 20) rfl)), (List.forall_mem_cons.mpr ⟨(zm_45 _ (List.mem_of_getElem? (i := 21) rfl)), (List.forall_mem_cons.mpr ⟨(zm_45 _ (List.mem_of_getElem? (i := 22) rfl)), (List.forall_mem_cons.mpr ⟨(zm_1 _ (List.mem_of_getElem? (i := 5) rfl)), (List.forall_mem_cons.mpr ⟨(zm_45 _ (List.mem_of_getElem? (i := 23) rfl)), (fun _ h => absurd h List.not_mem_nil)⟩)⟩)⟩)⟩)⟩), ⟨rfl, by decide, by decide, by decide +kernel⟩, by decide⟩
set_option maxRecDepth 100000 in
set_option maxHeartbeats 4000000 in
theorem zlaw_16 {E : ZEv} {a1 a2 : Nat → Nat} {G : ZLG} {b N : Nat} {xs : Nat → Int32} {cells slots : Nat} (h : zLu E a1 a2 G b N xs cells slots) {Rel : ZMem → ZMem → Prop} (hp : zPr_next Rel) (x3 : Int32) (g1 : vp_in (x3 + 1) N) (g2 : vp_in (x3 + 2) N) (g3 : vp_in (x3 + 3) N) (g4 : vp_in (x3 + 4) N) (g5 : vp_in (x3 + 5) N) (hend : ∀ M1 M2 : ZMem, Rel M1 M2 → G M1 M2 1294 [(0, .ref b), (1, zrf (zad E a1) 0), (2, zrf (zad E a2) 0), (3, .int x3)] []) (M1 M2 : ZMem) (hR : Rel M1 M2) : G M1 M2 680 [(0, .ref b), (1, zrf (zad E a1) 0), (2, zrf (zad E a2) 0), (3, .int x3)] [] := by
  refine zl_aload_n h dL_law_680 1 rfl rfl ?_
  refine zl_call1m (As := []) h lC_0 zcw_L_83 (c_X11_next (zad E a1) M1 _ (hp M1 M2 hR)) (Nat.le_of_ble_eq_true rfl) rfl rfl (Nat.le_of_ble_eq_true rfl) dL_law_681 (fun r1 hk => ?_)
  refine zl_aload_n h dL_law_684 2 rfl rfl ?_
  refine zl_call2m (As := []) h lR_0 zcw_L_86 (c_X12_next (zad E a2) M2 _ hk) (Nat.le_of_ble_eq_true rfl) rfl rfl (Nat.le_of_ble_eq_true rfl) dL_law_685 (fun r2 hk => ?_)
  exact zl_icmp_eq (tgt := 1294) h dL_law_688 (by decide) (fun _ => hend r1.1 r2.1 hk.2) (fun z => absurd hk.1 z)
theorem zcw_L_87 : zCV R_law 87 11 yX11_rise cX11_rise 2 (some .int) 1 := ⟨RX11, TX11, 16, rfl, (List.forall_mem_cons.mpr ⟨(zm_46 _ (List.mem_of_getElem? (i := 0) rfl)), (List.forall_mem_cons.mpr ⟨(zm_46 _ (List.mem_of_getElem? (i := 1) rfl)), (List.forall_mem_cons.mpr ⟨(zm_46 _ (List.mem_of_getElem? (i := 2) rfl)), (List.forall_mem_cons.mpr ⟨(zm_1 _ (List.mem_of_getElem? (i := 2) rfl)), (List.forall_mem_cons.mpr ⟨(zm_46 _ (List.mem_of_getElem? (i := 3) rfl)), (fun _ h => absurd h List.not_mem_nil)⟩)⟩)⟩)⟩)⟩), ⟨rfl, by decide, by decide, by decide +kernel⟩, by decide⟩
theorem zcw_L_90 : zCV R_law 90 12 yX12_rise cX12_rise 2 (some .int) 1 := ⟨RX12, TX12, 46, rfl, (List.forall_mem_cons.mpr ⟨(zm_46 _ (List.mem_of_getElem? (i := 4) rfl)), (List.forall_mem_cons.mpr ⟨(zm_46 _ (List.mem_of_getElem? (i := 5) rfl)), (List.forall_mem_cons.mpr ⟨(zm_46 _ (List.mem_of_getElem? (i := 6) rfl)), (List.forall_mem_cons.mpr ⟨(zm_1 _ (List.mem_of_getElem? (i := 5) rfl)), (List.forall_mem_cons.mpr ⟨(zm_46 _ (List.mem_of_getElem? (i := 7) rfl)), (fun _ h => absurd h List.not_mem_nil)⟩)⟩)⟩)⟩)⟩), ⟨rfl, by decide, by decide, by decide +kernel⟩, by decide⟩
set_option maxRecDepth 100000 in
set_option maxHeartbeats 4000000 in
theorem zlaw_17 {E : ZEv} {a1 a2 : Nat → Nat} {G : ZLG} {b N : Nat} {xs : Nat → Int32} {cells slots : Nat} (h : zLu E a1 a2 G b N xs cells slots) {Rel : ZMem → ZMem → Prop} (hp : zPr_rise Rel) (x3 : Int32) (g1 : vp_in (x3 + 1) N) (g2 : vp_in (x3 + 2) N) (g3 : vp_in (x3 + 3) N) (g4 : vp_in (x3 + 4) N) (g5 : vp_in (x3 + 5) N) (hend : ∀ M1 M2 : ZMem, Rel M1 M2 → G M1 M2 1294 [(0, .ref b), (1, zrf (zad E a1) 0), (2, zrf (zad E a2) 0), (3, .int x3)] []) (M1 M2 : ZMem) (hR : Rel M1 M2) : G M1 M2 693 [(0, .ref b), (1, zrf (zad E a1) 0), (2, zrf (zad E a2) 0), (3, .int x3)] [] := by
  refine zl_aload_n h dL_law_693 1 rfl rfl ?_
  refine zl_aload_n h dL_law_694 0 rfl rfl ?_
  refine zl_iload_n h dL_law_695 3 rfl rfl ?_
  refine zl_iconst (v := 1) h dL_law_696 (by decide) ?_
  refine zl_iadd h dL_law_697 ?_
  refine zl_sld h g1 dL_law_698 ?_
  refine zl_call1m (As := [.int (xs (x3 + 1).toNatClampNeg)]) h lC_0 zcw_L_87 (c_X11_rise (zad E a1) M1 (xs (x3 + 1).toNatClampNeg) _ (hp M1 M2 (xs (x3 + 1).toNatClampNeg) hR)) (Nat.le_of_ble_eq_true rfl) rfl rfl (Nat.le_of_ble_eq_true rfl) dL_law_699 (fun r1 hk => ?_)
  refine zl_aload_n h dL_law_702 2 rfl rfl ?_
  refine zl_aload_n h dL_law_703 0 rfl rfl ?_
  refine zl_iload_n h dL_law_704 3 rfl rfl ?_
  refine zl_iconst (v := 1) h dL_law_705 (by decide) ?_
  refine zl_iadd h dL_law_706 ?_
  refine zl_sld h g1 dL_law_707 ?_
  refine zl_call2m (As := [.int (xs (x3 + 1).toNatClampNeg)]) h lR_0 zcw_L_90 (c_X12_rise (zad E a2) M2 (xs (x3 + 1).toNatClampNeg) _ hk) (Nat.le_of_ble_eq_true rfl) rfl rfl (Nat.le_of_ble_eq_true rfl) dL_law_708 (fun r2 hk => ?_)
  exact zl_icmp_eq (tgt := 1294) h dL_law_711 (by decide) (fun _ => hend r1.1 r2.1 hk.2) (fun z => absurd hk.1 z)
theorem zcw_L_91 : zCV R_law 91 11 yX11_words cX11_words 1 (some .int) 0 := ⟨RX11, TX11, 16, rfl, (List.forall_mem_cons.mpr ⟨(zm_46 _ (List.mem_of_getElem? (i := 8) rfl)), (List.forall_mem_cons.mpr ⟨(zm_46 _ (List.mem_of_getElem? (i := 9) rfl)), (List.forall_mem_cons.mpr ⟨(zm_46 _ (List.mem_of_getElem? (i := 10) rfl)), (List.forall_mem_cons.mpr ⟨(zm_1 _ (List.mem_of_getElem? (i := 2) rfl)), (List.forall_mem_cons.mpr ⟨(zm_46 _ (List.mem_of_getElem? (i := 11) rfl)), (fun _ h => absurd h List.not_mem_nil)⟩)⟩)⟩)⟩)⟩), ⟨rfl, by decide, by decide, by decide +kernel⟩, by decide⟩
theorem zcw_L_94 : zCV R_law 94 12 yX12_words cX12_words 1 (some .int) 0 := ⟨RX12, TX12, 46, rfl, (List.forall_mem_cons.mpr ⟨(zm_46 _ (List.mem_of_getElem? (i := 16) rfl)), (List.forall_mem_cons.mpr ⟨(zm_46 _ (List.mem_of_getElem? (i := 17) rfl)), (List.forall_mem_cons.mpr ⟨(zm_46 _ (List.mem_of_getElem? (i := 18) rfl)), (List.forall_mem_cons.mpr ⟨(zm_1 _ (List.mem_of_getElem? (i := 5) rfl)), (List.forall_mem_cons.mpr ⟨(zm_46 _ (List.mem_of_getElem? (i := 19) rfl)), (fun _ h => absurd h List.not_mem_nil)⟩)⟩)⟩)⟩)⟩), ⟨rfl, by decide, by decide, by decide +kernel⟩, by decide⟩
set_option maxRecDepth 100000 in
set_option maxHeartbeats 4000000 in
theorem zlaw_18 {E : ZEv} {a1 a2 : Nat → Nat} {G : ZLG} {b N : Nat} {xs : Nat → Int32} {cells slots : Nat} (h : zLu E a1 a2 G b N xs cells slots) {Rel : ZMem → ZMem → Prop} (hp : zPr_words Rel) (x3 : Int32) (g1 : vp_in (x3 + 1) N) (g2 : vp_in (x3 + 2) N) (g3 : vp_in (x3 + 3) N) (g4 : vp_in (x3 + 4) N) (g5 : vp_in (x3 + 5) N) (hend : ∀ M1 M2 : ZMem, Rel M1 M2 → G M1 M2 1294 [(0, .ref b), (1, zrf (zad E a1) 0), (2, zrf (zad E a2) 0), (3, .int x3)] []) (M1 M2 : ZMem) (hR : Rel M1 M2) : G M1 M2 716 [(0, .ref b), (1, zrf (zad E a1) 0), (2, zrf (zad E a2) 0), (3, .int x3)] [] := by
  refine zl_aload_n h dL_law_716 1 rfl rfl ?_
  refine zl_call1m (As := []) h lC_0 zcw_L_91 (c_X11_words (zad E a1) M1 _ (hp M1 M2 hR)) (Nat.le_of_ble_eq_true rfl) rfl rfl (Nat.le_of_ble_eq_true rfl) dL_law_717 (fun r1 hk => ?_)
  refine zl_aload_n h dL_law_720 2 rfl rfl ?_
  refine zl_call2m (As := []) h lR_0 zcw_L_94 (c_X12_words (zad E a2) M2 _ hk) (Nat.le_of_ble_eq_true rfl) rfl rfl (Nat.le_of_ble_eq_true rfl) dL_law_721 (fun r2 hk => ?_)
  exact zl_icmp_eq (tgt := 1294) h dL_law_724 (by decide) (fun _ => hend r1.1 r2.1 hk.2) (fun z => absurd hk.1 z)
theorem zcw_L_95 : zCV R_law 95 11 yX11_word cX11_word 3 (some .int) 2 := ⟨RX11, TX11, 16, rfl, (List.forall_mem_cons.mpr ⟨(zm_46 _ (List.mem_of_getElem? (i := 20) rfl)), (List.forall_mem_cons.mpr ⟨(zm_46 _ (List.mem_of_getElem? (i := 21) rfl)), (List.forall_mem_cons.mpr ⟨(zm_46 _ (List.mem_of_getElem? (i := 22) rfl)), (List.forall_mem_cons.mpr ⟨(zm_1 _ (List.mem_of_getElem? (i := 2) rfl)), (List.forall_mem_cons.mpr ⟨(zm_46 _ (List.mem_of_getElem? (i := 23) rfl)), (fun _ h => absurd h List.not_mem_nil)⟩)⟩)⟩)⟩)⟩), ⟨rfl, by decide, by decide, by decide +kernel⟩, by decide⟩
theorem zcw_L_98 : zCV R_law 98 12 yX12_word cX12_word 3 (some .int) 2 := ⟨RX12, TX12, 46, rfl, (List.forall_mem_cons.mpr ⟨(zm_47 _ (List.mem_of_getElem? (i := 4) rfl)), (List.forall_mem_cons.mpr ⟨(zm_47 _ (List.mem_of_getElem? (i := 5) rfl)), (List.forall_mem_cons.mpr ⟨(zm_47 _ (List.mem_of_getElem? (i := 6) rfl)), (List.forall_mem_cons.mpr ⟨(zm_1 _ (List.mem_of_getElem? (i := 5) rfl)), (List.forall_mem_cons.mpr ⟨(zm_47 _ (List.mem_of_getElem? (i := 7) rfl)), (fun _ h => absurd h List.not_mem_nil)⟩)⟩)⟩)⟩)⟩), ⟨rfl, by decide, by decide, by decide +kernel⟩, by decide⟩
set_option maxRecDepth 100000 in
set_option maxHeartbeats 4000000 in
theorem zlaw_19 {E : ZEv} {a1 a2 : Nat → Nat} {G : ZLG} {b N : Nat} {xs : Nat → Int32} {cells slots : Nat} (h : zLu E a1 a2 G b N xs cells slots) {Rel : ZMem → ZMem → Prop} (hp : zPr_word Rel) (x3 : Int32) (g1 : vp_in (x3 + 1) N) (g2 : vp_in (x3 + 2) N) (g3 : vp_in (x3 + 3) N) (g4 : vp_in (x3 + 4) N) (g5 : vp_in (x3 + 5) N) (hend : ∀ M1 M2 : ZMem, Rel M1 M2 → G M1 M2 1294 [(0, .ref b), (1, zrf (zad E a1) 0), (2, zrf (zad E a2) 0), (3, .int x3)] []) (M1 M2 : ZMem) (hR : Rel M1 M2) : G M1 M2 729 [(0, .ref b), (1, zrf (zad E a1) 0), (2, zrf (zad E a2) 0), (3, .int x3)] [] := by
  refine zl_aload_n h dL_law_729 1 rfl rfl ?_
  refine zl_aload_n h dL_law_730 0 rfl rfl ?_
  refine zl_iload_n h dL_law_731 3 rfl rfl ?_
  refine zl_iconst (v := 1) h dL_law_732 (by decide) ?_
  refine zl_iadd h dL_law_733 ?_
  refine zl_sld h g1 dL_law_734 ?_
  refine zl_aload_n h dL_law_735 0 rfl rfl ?_
  refine zl_iload_n h dL_law_736 3 rfl rfl ?_
  refine zl_iconst (v := 2) h dL_law_737 (by decide) ?_
  refine zl_iadd h dL_law_738 ?_
  refine zl_sld h g2 dL_law_739 ?_
  refine zl_call1m (As := [.int (xs (x3 + 1).toNatClampNeg), .int (xs (x3 + 2).toNatClampNeg)]) h lC_0 zcw_L_95 (c_X11_word (zad E a1) M1 (xs (x3 + 1).toNatClampNeg) (xs (x3 + 2).toNatClampNeg) _ (hp M1 M2 (xs (x3 + 1).toNatClampNeg) (xs (x3 + 2).toNatClampNeg) hR)) (Nat.le_of_ble_eq_true rfl) rfl rfl (Nat.le_of_ble_eq_true rfl) dL_law_740 (fun r1 hk => ?_)
  refine zl_aload_n h dL_law_743 2 rfl rfl ?_
  refine zl_aload_n h dL_law_744 0 rfl rfl ?_
  refine zl_iload_n h dL_law_745 3 rfl rfl ?_
  refine zl_iconst (v := 1) h dL_law_746 (by decide) ?_
  refine zl_iadd h dL_law_747 ?_
  refine zl_sld h g1 dL_law_748 ?_
  refine zl_aload_n h dL_law_749 0 rfl rfl ?_
  refine zl_iload_n h dL_law_750 3 rfl rfl ?_
  refine zl_iconst (v := 2) h dL_law_751 (by decide) ?_
  refine zl_iadd h dL_law_752 ?_
  refine zl_sld h g2 dL_law_753 ?_
  refine zl_call2m (As := [.int (xs (x3 + 1).toNatClampNeg), .int (xs (x3 + 2).toNatClampNeg)]) h lR_0 zcw_L_98 (c_X12_word (zad E a2) M2 (xs (x3 + 1).toNatClampNeg) (xs (x3 + 2).toNatClampNeg) _ hk) (Nat.le_of_ble_eq_true rfl) rfl rfl (Nat.le_of_ble_eq_true rfl) dL_law_754 (fun r2 hk => ?_)
  exact zl_icmp_eq (tgt := 1294) h dL_law_757 (by decide) (fun _ => hend r1.1 r2.1 hk.2) (fun z => absurd hk.1 z)
theorem zcw_L_99 : zCV R_law 99 11 yX11_rank cX11_rank 2 (some .int) 1 := ⟨RX11, TX11, 16, rfl, (List.forall_mem_cons.mpr ⟨(zm_47 _ (List.mem_of_getElem? (i := 8) rfl)), (List.forall_mem_cons.mpr ⟨(zm_47 _ (List.mem_of_getElem? (i := 9) rfl)), (List.forall_mem_cons.mpr ⟨(zm_47 _ (List.mem_of_getElem? (i := 10) rfl)), (List.forall_mem_cons.mpr ⟨(zm_1 _ (List.mem_of_getElem? (i := 2) rfl)), (List.forall_mem_cons.mpr ⟨(zm_47 _ (List.mem_of_getElem? (i := 11) rfl)), (fun _ h => absurd h List.not_mem_nil)⟩)⟩)⟩)⟩)⟩), ⟨rfl, by decide, by decide, by decide +kernel⟩, by decide⟩
theorem zcw_L_102 : zCV R_law 102 12 yX12_rank cX12_rank 5 (some .int) 1 := ⟨RX12, TX12, 46, rfl, (List.forall_mem_cons.mpr ⟨(zm_47 _ (List.mem_of_getElem? (i := 16) rfl)), (List.forall_mem_cons.mpr ⟨(zm_47 _ (List.mem_of_getElem? (i := 17) rfl)), (List.forall_mem_cons.mpr ⟨(zm_47 _ (List.mem_of_getElem? (i := 18) rfl)), (List.forall_mem_cons.mpr ⟨(zm_1 _ (List.mem_of_getElem? (i := 5) rfl)), (List.forall_mem_cons.mpr ⟨(zm_47 _ (List.mem_of_getElem? (i := 19) rfl)), (fun _ h => absurd h List.not_mem_nil)⟩)⟩)⟩)⟩)⟩), ⟨rfl, by decide, by decide, by decide +kernel⟩, by decide⟩
set_option maxRecDepth 100000 in
set_option maxHeartbeats 4000000 in
theorem zlaw_20 {E : ZEv} {a1 a2 : Nat → Nat} {G : ZLG} {b N : Nat} {xs : Nat → Int32} {cells slots : Nat} (h : zLu E a1 a2 G b N xs cells slots) {Rel : ZMem → ZMem → Prop} (hp : zPr_rank Rel) (x3 : Int32) (g1 : vp_in (x3 + 1) N) (g2 : vp_in (x3 + 2) N) (g3 : vp_in (x3 + 3) N) (g4 : vp_in (x3 + 4) N) (g5 : vp_in (x3 + 5) N) (hend : ∀ M1 M2 : ZMem, Rel M1 M2 → G M1 M2 1294 [(0, .ref b), (1, zrf (zad E a1) 0), (2, zrf (zad E a2) 0), (3, .int x3)] []) (M1 M2 : ZMem) (hR : Rel M1 M2) : G M1 M2 762 [(0, .ref b), (1, zrf (zad E a1) 0), (2, zrf (zad E a2) 0), (3, .int x3)] [] := by
  refine zl_aload_n h dL_law_762 1 rfl rfl ?_
  refine zl_aload_n h dL_law_763 0 rfl rfl ?_
  refine zl_iload_n h dL_law_764 3 rfl rfl ?_
  refine zl_iconst (v := 1) h dL_law_765 (by decide) ?_
  refine zl_iadd h dL_law_766 ?_
  refine zl_sld h g1 dL_law_767 ?_
  refine zl_call1m (As := [.int (xs (x3 + 1).toNatClampNeg)]) h lC_0 zcw_L_99 (c_X11_rank (zad E a1) M1 (xs (x3 + 1).toNatClampNeg) _ (hp M1 M2 (xs (x3 + 1).toNatClampNeg) hR)) (Nat.le_of_ble_eq_true rfl) rfl rfl (Nat.le_of_ble_eq_true rfl) dL_law_768 (fun r1 hk => ?_)
  refine zl_aload_n h dL_law_771 2 rfl rfl ?_
  refine zl_aload_n h dL_law_772 0 rfl rfl ?_
  refine zl_iload_n h dL_law_773 3 rfl rfl ?_
  refine zl_iconst (v := 1) h dL_law_774 (by decide) ?_
  refine zl_iadd h dL_law_775 ?_
  refine zl_sld h g1 dL_law_776 ?_
  refine zl_call2m (As := [.int (xs (x3 + 1).toNatClampNeg)]) h lR_0 zcw_L_102 (c_X12_rank (zad E a2) M2 (xs (x3 + 1).toNatClampNeg) _ hk) (Nat.le_of_ble_eq_true rfl) rfl rfl (Nat.le_of_ble_eq_true rfl) dL_law_777 (fun r2 hk => ?_)
  exact zl_icmp_eq (tgt := 1294) h dL_law_780 (by decide) (fun _ => hend r1.1 r2.1 hk.2) (fun z => absurd hk.1 z)
theorem zcw_L_103 : zCV R_law 103 11 yX11_stands cX11_stands 4 (some .int) 2 := ⟨RX11, TX11, 16, rfl, (List.forall_mem_cons.mpr ⟨(zm_47 _ (List.mem_of_getElem? (i := 20) rfl)), (List.forall_mem_cons.mpr ⟨(zm_47 _ (List.mem_of_getElem? (i := 21) rfl)), (List.forall_mem_cons.mpr ⟨(zm_47 _ (List.mem_of_getElem? (i := 22) rfl)), (List.forall_mem_cons.mpr ⟨(zm_1 _ (List.mem_of_getElem? (i := 2) rfl)), (List.forall_mem_cons.mpr ⟨(zm_47 _ (List.mem_of_getElem? (i := 23) rfl)), (fun _ h => absurd h List.not_mem_nil)⟩)⟩)⟩)⟩)⟩), ⟨rfl, by decide, by decide, by decide +kernel⟩, by decide⟩
theorem zcw_L_106 : zCV R_law 106 12 yX12_stands_ cX12_stands_ 6 (some .int) 2 := ⟨RX12, TX12, 46, rfl, (List.forall_mem_cons.mpr ⟨(zm_48 _ (List.mem_of_getElem? (i := 16) rfl)), (List.forall_mem_cons.mpr ⟨(zm_48 _ (List.mem_of_getElem? (i := 17) rfl)), (List.forall_mem_cons.mpr ⟨(zm_48 _ (List.mem_of_getElem? (i := 18) rfl)), (List.forall_mem_cons.mpr ⟨(zm_1 _ (List.mem_of_getElem? (i := 5) rfl)), (List.forall_mem_cons.mpr ⟨(zm_48 _ (List.mem_of_getElem? (i := 19) rfl)), (fun _ h => absurd h List.not_mem_nil)⟩)⟩)⟩)⟩)⟩), ⟨rfl, by decide, by decide, by decide +kernel⟩, by decide⟩
set_option maxRecDepth 100000 in
set_option maxHeartbeats 4000000 in
theorem zlaw_21 {E : ZEv} {a1 a2 : Nat → Nat} {G : ZLG} {b N : Nat} {xs : Nat → Int32} {cells slots : Nat} (h : zLu E a1 a2 G b N xs cells slots) {Rel : ZMem → ZMem → Prop} (hp : zPr_stands Rel) (x3 : Int32) (g1 : vp_in (x3 + 1) N) (g2 : vp_in (x3 + 2) N) (g3 : vp_in (x3 + 3) N) (g4 : vp_in (x3 + 4) N) (g5 : vp_in (x3 + 5) N) (hend : ∀ M1 M2 : ZMem, Rel M1 M2 → G M1 M2 1294 [(0, .ref b), (1, zrf (zad E a1) 0), (2, zrf (zad E a2) 0), (3, .int x3)] []) (M1 M2 : ZMem) (hR : Rel M1 M2) : G M1 M2 785 [(0, .ref b), (1, zrf (zad E a1) 0), (2, zrf (zad E a2) 0), (3, .int x3)] [] := by
  refine zl_aload_n h dL_law_785 1 rfl rfl ?_
  refine zl_aload_n h dL_law_786 0 rfl rfl ?_
  refine zl_iload_n h dL_law_787 3 rfl rfl ?_
  refine zl_iconst (v := 1) h dL_law_788 (by decide) ?_
  refine zl_iadd h dL_law_789 ?_
  refine zl_sld h g1 dL_law_790 ?_
  refine zl_aload_n h dL_law_791 0 rfl rfl ?_
  refine zl_iload_n h dL_law_792 3 rfl rfl ?_
  refine zl_iconst (v := 2) h dL_law_793 (by decide) ?_
  refine zl_iadd h dL_law_794 ?_
  refine zl_sld h g2 dL_law_795 ?_
  refine zl_call1m (As := [.int (xs (x3 + 1).toNatClampNeg), .int (xs (x3 + 2).toNatClampNeg)]) h lC_0 zcw_L_103 (c_X11_stands (zad E a1) M1 (xs (x3 + 1).toNatClampNeg) (xs (x3 + 2).toNatClampNeg) _ (hp M1 M2 (xs (x3 + 1).toNatClampNeg) (xs (x3 + 2).toNatClampNeg) hR)) (Nat.le_of_ble_eq_true rfl) rfl rfl (Nat.le_of_ble_eq_true rfl) dL_law_796 (fun r1 hk => ?_)
  refine zl_aload_n h dL_law_799 2 rfl rfl ?_
  refine zl_aload_n h dL_law_800 0 rfl rfl ?_
  refine zl_iload_n h dL_law_801 3 rfl rfl ?_
  refine zl_iconst (v := 1) h dL_law_802 (by decide) ?_
  refine zl_iadd h dL_law_803 ?_
  refine zl_sld h g1 dL_law_804 ?_
  refine zl_aload_n h dL_law_805 0 rfl rfl ?_
  refine zl_iload_n h dL_law_806 3 rfl rfl ?_
  refine zl_iconst (v := 2) h dL_law_807 (by decide) ?_
  refine zl_iadd h dL_law_808 ?_
  refine zl_sld h g2 dL_law_809 ?_
  refine zl_call2m (As := [.int (xs (x3 + 1).toNatClampNeg), .int (xs (x3 + 2).toNatClampNeg)]) h lR_0 zcw_L_106 (c_X12_stands_ (zad E a2) M2 (xs (x3 + 1).toNatClampNeg) (xs (x3 + 2).toNatClampNeg) _ hk) (Nat.le_of_ble_eq_true rfl) rfl rfl (Nat.le_of_ble_eq_true rfl) dL_law_810 (fun r2 hk => ?_)
  exact zl_icmp_eq (tgt := 1294) h dL_law_813 (by decide) (fun _ => hend r1.1 r2.1 hk.2) (fun z => absurd hk.1 z)
theorem zcw_L_107 : zCV R_law 107 11 yX11_ahead cX11_ahead 5 (some .int) 2 := ⟨RX11, TX11, 16, rfl, (List.forall_mem_cons.mpr ⟨(zm_49 _ (List.mem_of_getElem? (i := 0) rfl)), (List.forall_mem_cons.mpr ⟨(zm_49 _ (List.mem_of_getElem? (i := 1) rfl)), (List.forall_mem_cons.mpr ⟨(zm_49 _ (List.mem_of_getElem? (i := 2) rfl)), (List.forall_mem_cons.mpr ⟨(zm_1 _ (List.mem_of_getElem? (i := 2) rfl)), (List.forall_mem_cons.mpr ⟨(zm_49 _ (List.mem_of_getElem? (i := 3) rfl)), (fun _ h => absurd h List.not_mem_nil)⟩)⟩)⟩)⟩)⟩), ⟨rfl, by decide, by decide, by decide +kernel⟩, by decide⟩
theorem zcw_L_110 : zCV R_law 110 12 yX12_ahead cX12_ahead 6 (some .int) 2 := ⟨RX12, TX12, 46, rfl, (List.forall_mem_cons.mpr ⟨(zm_49 _ (List.mem_of_getElem? (i := 8) rfl)), (List.forall_mem_cons.mpr ⟨(zm_49 _ (List.mem_of_getElem? (i := 9) rfl)), (List.forall_mem_cons.mpr ⟨(zm_49 _ (List.mem_of_getElem? (i := 10) rfl)), (List.forall_mem_cons.mpr ⟨(zm_1 _ (List.mem_of_getElem? (i := 5) rfl)), (List.forall_mem_cons.mpr ⟨(zm_49 _ (List.mem_of_getElem? (i := 11) rfl)), (fun _ h => absurd h List.not_mem_nil)⟩)⟩)⟩)⟩)⟩), ⟨rfl, by decide, by decide, by decide +kernel⟩, by decide⟩
set_option maxRecDepth 100000 in
set_option maxHeartbeats 4000000 in
theorem zlaw_22 {E : ZEv} {a1 a2 : Nat → Nat} {G : ZLG} {b N : Nat} {xs : Nat → Int32} {cells slots : Nat} (h : zLu E a1 a2 G b N xs cells slots) {Rel : ZMem → ZMem → Prop} (hp : zPr_ahead Rel) (x3 : Int32) (g1 : vp_in (x3 + 1) N) (g2 : vp_in (x3 + 2) N) (g3 : vp_in (x3 + 3) N) (g4 : vp_in (x3 + 4) N) (g5 : vp_in (x3 + 5) N) (hend : ∀ M1 M2 : ZMem, Rel M1 M2 → G M1 M2 1294 [(0, .ref b), (1, zrf (zad E a1) 0), (2, zrf (zad E a2) 0), (3, .int x3)] []) (M1 M2 : ZMem) (hR : Rel M1 M2) : G M1 M2 818 [(0, .ref b), (1, zrf (zad E a1) 0), (2, zrf (zad E a2) 0), (3, .int x3)] [] := by
  refine zl_aload_n h dL_law_818 1 rfl rfl ?_
  refine zl_aload_n h dL_law_819 0 rfl rfl ?_
  refine zl_iload_n h dL_law_820 3 rfl rfl ?_
  refine zl_iconst (v := 1) h dL_law_821 (by decide) ?_
  refine zl_iadd h dL_law_822 ?_
  refine zl_sld h g1 dL_law_823 ?_
  refine zl_aload_n h dL_law_824 0 rfl rfl ?_
  refine zl_iload_n h dL_law_825 3 rfl rfl ?_
  refine zl_iconst (v := 2) h dL_law_826 (by decide) ?_
  refine zl_iadd h dL_law_827 ?_
  refine zl_sld h g2 dL_law_828 ?_
  refine zl_call1m (As := [.int (xs (x3 + 1).toNatClampNeg), .int (xs (x3 + 2).toNatClampNeg)]) h lC_0 zcw_L_107 (c_X11_ahead (zad E a1) M1 (xs (x3 + 1).toNatClampNeg) (xs (x3 + 2).toNatClampNeg) _ (hp M1 M2 (xs (x3 + 1).toNatClampNeg) (xs (x3 + 2).toNatClampNeg) hR)) (Nat.le_of_ble_eq_true rfl) rfl rfl (Nat.le_of_ble_eq_true rfl) dL_law_829 (fun r1 hk => ?_)
  refine zl_aload_n h dL_law_832 2 rfl rfl ?_
  refine zl_aload_n h dL_law_833 0 rfl rfl ?_
  refine zl_iload_n h dL_law_834 3 rfl rfl ?_
  refine zl_iconst (v := 1) h dL_law_835 (by decide) ?_
  refine zl_iadd h dL_law_836 ?_
  refine zl_sld h g1 dL_law_837 ?_
  refine zl_aload_n h dL_law_838 0 rfl rfl ?_
  refine zl_iload_n h dL_law_839 3 rfl rfl ?_
  refine zl_iconst (v := 2) h dL_law_840 (by decide) ?_
  refine zl_iadd h dL_law_841 ?_
  refine zl_sld h g2 dL_law_842 ?_
  refine zl_call2m (As := [.int (xs (x3 + 1).toNatClampNeg), .int (xs (x3 + 2).toNatClampNeg)]) h lR_0 zcw_L_110 (c_X12_ahead (zad E a2) M2 (xs (x3 + 1).toNatClampNeg) (xs (x3 + 2).toNatClampNeg) _ hk) (Nat.le_of_ble_eq_true rfl) rfl rfl (Nat.le_of_ble_eq_true rfl) dL_law_843 (fun r2 hk => ?_)
  exact zl_icmp_eq (tgt := 1294) h dL_law_846 (by decide) (fun _ => hend r1.1 r2.1 hk.2) (fun z => absurd hk.1 z)
theorem zcw_L_111 : zCV R_law 111 11 yX11_stem cX11_stem 3 (some .int) 2 := ⟨RX11, TX11, 16, rfl, (List.forall_mem_cons.mpr ⟨(zm_49 _ (List.mem_of_getElem? (i := 12) rfl)), (List.forall_mem_cons.mpr ⟨(zm_49 _ (List.mem_of_getElem? (i := 13) rfl)), (List.forall_mem_cons.mpr ⟨(zm_49 _ (List.mem_of_getElem? (i := 14) rfl)), (List.forall_mem_cons.mpr ⟨(zm_1 _ (List.mem_of_getElem? (i := 2) rfl)), (List.forall_mem_cons.mpr ⟨(zm_49 _ (List.mem_of_getElem? (i := 15) rfl)), (fun _ h => absurd h List.not_mem_nil)⟩)⟩)⟩)⟩)⟩), ⟨rfl, by decide, by decide, by decide +kernel⟩, by decide⟩
theorem zcw_L_114 : zCV R_law 114 12 yX12_stem cX12_stem 5 (some .int) 2 := ⟨RX12, TX12, 46, rfl, (List.forall_mem_cons.mpr ⟨(zm_50 _ (List.mem_of_getElem? (i := 1) rfl)), (List.forall_mem_cons.mpr ⟨(zm_50 _ (List.mem_of_getElem? (i := 2) rfl)), (List.forall_mem_cons.mpr ⟨(zm_50 _ (List.mem_of_getElem? (i := 3) rfl)), (List.forall_mem_cons.mpr ⟨(zm_1 _ (List.mem_of_getElem? (i := 5) rfl)), (List.forall_mem_cons.mpr ⟨(zm_50 _ (List.mem_of_getElem? (i := 4) rfl)), (fun _ h => absurd h List.not_mem_nil)⟩)⟩)⟩)⟩)⟩), ⟨rfl, by decide, by decide, by decide +kernel⟩, by decide⟩
set_option maxRecDepth 100000 in
set_option maxHeartbeats 4000000 in
theorem zlaw_23 {E : ZEv} {a1 a2 : Nat → Nat} {G : ZLG} {b N : Nat} {xs : Nat → Int32} {cells slots : Nat} (h : zLu E a1 a2 G b N xs cells slots) {Rel : ZMem → ZMem → Prop} (hp : zPr_stem Rel) (x3 : Int32) (g1 : vp_in (x3 + 1) N) (g2 : vp_in (x3 + 2) N) (g3 : vp_in (x3 + 3) N) (g4 : vp_in (x3 + 4) N) (g5 : vp_in (x3 + 5) N) (hend : ∀ M1 M2 : ZMem, Rel M1 M2 → G M1 M2 1294 [(0, .ref b), (1, zrf (zad E a1) 0), (2, zrf (zad E a2) 0), (3, .int x3)] []) (M1 M2 : ZMem) (hR : Rel M1 M2) : G M1 M2 851 [(0, .ref b), (1, zrf (zad E a1) 0), (2, zrf (zad E a2) 0), (3, .int x3)] [] := by
  refine zl_aload_n h dL_law_851 1 rfl rfl ?_
  refine zl_aload_n h dL_law_852 0 rfl rfl ?_
  refine zl_iload_n h dL_law_853 3 rfl rfl ?_
  refine zl_iconst (v := 1) h dL_law_854 (by decide) ?_
  refine zl_iadd h dL_law_855 ?_
  refine zl_sld h g1 dL_law_856 ?_
  refine zl_aload_n h dL_law_857 0 rfl rfl ?_
  refine zl_iload_n h dL_law_858 3 rfl rfl ?_
  refine zl_iconst (v := 2) h dL_law_859 (by decide) ?_
  refine zl_iadd h dL_law_860 ?_
  refine zl_sld h g2 dL_law_861 ?_
  refine zl_call1m (As := [.int (xs (x3 + 1).toNatClampNeg), .int (xs (x3 + 2).toNatClampNeg)]) h lC_0 zcw_L_111 (c_X11_stem (zad E a1) M1 (xs (x3 + 1).toNatClampNeg) (xs (x3 + 2).toNatClampNeg) _ (hp M1 M2 (xs (x3 + 1).toNatClampNeg) (xs (x3 + 2).toNatClampNeg) hR)) (Nat.le_of_ble_eq_true rfl) rfl rfl (Nat.le_of_ble_eq_true rfl) dL_law_862 (fun r1 hk => ?_)
  refine zl_aload_n h dL_law_865 2 rfl rfl ?_
  refine zl_aload_n h dL_law_866 0 rfl rfl ?_
  refine zl_iload_n h dL_law_867 3 rfl rfl ?_
  refine zl_iconst (v := 1) h dL_law_868 (by decide) ?_
  refine zl_iadd h dL_law_869 ?_
  refine zl_sld h g1 dL_law_870 ?_
  refine zl_aload_n h dL_law_871 0 rfl rfl ?_
  refine zl_iload_n h dL_law_872 3 rfl rfl ?_
  refine zl_iconst (v := 2) h dL_law_873 (by decide) ?_
  refine zl_iadd h dL_law_874 ?_
  refine zl_sld h g2 dL_law_875 ?_
  refine zl_call2m (As := [.int (xs (x3 + 1).toNatClampNeg), .int (xs (x3 + 2).toNatClampNeg)]) h lR_0 zcw_L_114 (c_X12_stem (zad E a2) M2 (xs (x3 + 1).toNatClampNeg) (xs (x3 + 2).toNatClampNeg) _ hk) (Nat.le_of_ble_eq_true rfl) rfl rfl (Nat.le_of_ble_eq_true rfl) dL_law_876 (fun r2 hk => ?_)
  exact zl_icmp_eq (tgt := 1294) h dL_law_879 (by decide) (fun _ => hend r1.1 r2.1 hk.2) (fun z => absurd hk.1 z)
theorem zcw_L_115 : zCV R_law 115 11 yX11_clue cX11_clue 7 (some .int) 3 := ⟨RX11, TX11, 16, rfl, (List.forall_mem_cons.mpr ⟨(zm_51 _ (List.mem_of_getElem? (i := 2) rfl)), (List.forall_mem_cons.mpr ⟨(zm_51 _ (List.mem_of_getElem? (i := 3) rfl)), (List.forall_mem_cons.mpr ⟨(zm_51 _ (List.mem_of_getElem? (i := 4) rfl)), (List.forall_mem_cons.mpr ⟨(zm_1 _ (List.mem_of_getElem? (i := 2) rfl)), (List.forall_mem_cons.mpr ⟨(zm_51 _ (List.mem_of_getElem? (i := 5) rfl)), (fun _ h => absurd h List.not_mem_nil)⟩)⟩)⟩)⟩)⟩), ⟨rfl, by decide, by decide, by decide +kernel⟩, by decide⟩
theorem zcw_L_119 : zCV R_law 119 12 yX12_clue cX12_clue 5 (some .int) 3 := ⟨RX12, TX12, 46, rfl, (List.forall_mem_cons.mpr ⟨(zm_51 _ (List.mem_of_getElem? (i := 14) rfl)), (List.forall_mem_cons.mpr ⟨(zm_51 _ (List.mem_of_getElem? (i := 15) rfl)), (List.forall_mem_cons.mpr ⟨(zm_51 _ (List.mem_of_getElem? (i := 16) rfl)), (List.forall_mem_cons.mpr ⟨(zm_1 _ (List.mem_of_getElem? (i := 5) rfl)), (List.forall_mem_cons.mpr ⟨(zm_51 _ (List.mem_of_getElem? (i := 17) rfl)), (fun _ h => absurd h List.not_mem_nil)⟩)⟩)⟩)⟩)⟩), ⟨rfl, by decide, by decide, by decide +kernel⟩, by decide⟩
set_option maxRecDepth 100000 in
set_option maxHeartbeats 4000000 in
theorem zlaw_24 {E : ZEv} {a1 a2 : Nat → Nat} {G : ZLG} {b N : Nat} {xs : Nat → Int32} {cells slots : Nat} (h : zLu E a1 a2 G b N xs cells slots) {Rel : ZMem → ZMem → Prop} (hp : zPr_clue Rel) (x3 : Int32) (g1 : vp_in (x3 + 1) N) (g2 : vp_in (x3 + 2) N) (g3 : vp_in (x3 + 3) N) (g4 : vp_in (x3 + 4) N) (g5 : vp_in (x3 + 5) N) (hend : ∀ M1 M2 : ZMem, Rel M1 M2 → G M1 M2 1294 [(0, .ref b), (1, zrf (zad E a1) 0), (2, zrf (zad E a2) 0), (3, .int x3)] []) (M1 M2 : ZMem) (hR : Rel M1 M2) : G M1 M2 884 [(0, .ref b), (1, zrf (zad E a1) 0), (2, zrf (zad E a2) 0), (3, .int x3)] [] := by
  by_cases cz : xs (x3 + 3).toNatClampNeg = 0
  · refine zl_aload_n h dL_law_884 1 rfl rfl ?_
    refine zl_aload_n h dL_law_885 0 rfl rfl ?_
    refine zl_iload_n h dL_law_886 3 rfl rfl ?_
    refine zl_iconst (v := 1) h dL_law_887 (by decide) ?_
    refine zl_iadd h dL_law_888 ?_
    refine zl_sld h g1 dL_law_889 ?_
    refine zl_aload_n h dL_law_890 0 rfl rfl ?_
    refine zl_iload_n h dL_law_891 3 rfl rfl ?_
    refine zl_iconst (v := 2) h dL_law_892 (by decide) ?_
    refine zl_iadd h dL_law_893 ?_
    refine zl_sld h g2 dL_law_894 ?_
    refine zl_aload_n h dL_law_895 0 rfl rfl ?_
    refine zl_iload_n h dL_law_896 3 rfl rfl ?_
    refine zl_iconst (v := 3) h dL_law_897 (by decide) ?_
    refine zl_iadd h dL_law_898 ?_
    refine zl_sld h g3 dL_law_899 ?_
    refine zl_if_eq (tgt := 907) h dL_law_900 (by decide) (fun _ => ?_) (fun z => absurd cz z)
    refine zl_iconst (v := 0) h dL_law_907 (by decide) ?_
    refine zl_call1m (As := [.int (xs (x3 + 1).toNatClampNeg), .int (xs (x3 + 2).toNatClampNeg), .int 0]) h lC_0 zcw_L_115 (c_X11_clue (zad E a1) M1 (xs (x3 + 1).toNatClampNeg) (xs (x3 + 2).toNatClampNeg) 0 _ (hp M1 M2 (xs (x3 + 1).toNatClampNeg) (xs (x3 + 2).toNatClampNeg) 0 hR zisB_0)) (Nat.le_of_ble_eq_true rfl) rfl rfl (Nat.le_of_ble_eq_true rfl) dL_law_908 (fun r1 hk => ?_)
    refine zl_aload_n h dL_law_911 2 rfl rfl ?_
    refine zl_aload_n h dL_law_912 0 rfl rfl ?_
    refine zl_iload_n h dL_law_913 3 rfl rfl ?_
    refine zl_iconst (v := 1) h dL_law_914 (by decide) ?_
    refine zl_iadd h dL_law_915 ?_
    refine zl_sld h g1 dL_law_916 ?_
    refine zl_aload_n h dL_law_917 0 rfl rfl ?_
    refine zl_iload_n h dL_law_918 3 rfl rfl ?_
    refine zl_iconst (v := 2) h dL_law_919 (by decide) ?_
    refine zl_iadd h dL_law_920 ?_
    refine zl_sld h g2 dL_law_921 ?_
    refine zl_aload_n h dL_law_922 0 rfl rfl ?_
    refine zl_iload_n h dL_law_923 3 rfl rfl ?_
    refine zl_iconst (v := 3) h dL_law_924 (by decide) ?_
    refine zl_iadd h dL_law_925 ?_
    refine zl_sld h g3 dL_law_926 ?_
    refine zl_if_eq (tgt := 934) h dL_law_927 (by decide) (fun _ => ?_) (fun z => absurd cz z)
    refine zl_iconst (v := 0) h dL_law_934 (by decide) ?_
    refine zl_call2m (As := [.int (xs (x3 + 1).toNatClampNeg), .int (xs (x3 + 2).toNatClampNeg), .int 0]) h lR_0 zcw_L_119 (c_X12_clue (zad E a2) M2 (xs (x3 + 1).toNatClampNeg) (xs (x3 + 2).toNatClampNeg) 0 _ hk) (Nat.le_of_ble_eq_true rfl) rfl rfl (Nat.le_of_ble_eq_true rfl) dL_law_935 (fun r2 hk => ?_)
    exact zl_icmp_eq (tgt := 1294) h dL_law_938 (by decide) (fun _ => hend r1.1 r2.1 hk.2) (fun z => absurd hk.1 z)
  · refine zl_aload_n h dL_law_884 1 rfl rfl ?_
    refine zl_aload_n h dL_law_885 0 rfl rfl ?_
    refine zl_iload_n h dL_law_886 3 rfl rfl ?_
    refine zl_iconst (v := 1) h dL_law_887 (by decide) ?_
    refine zl_iadd h dL_law_888 ?_
    refine zl_sld h g1 dL_law_889 ?_
    refine zl_aload_n h dL_law_890 0 rfl rfl ?_
    refine zl_iload_n h dL_law_891 3 rfl rfl ?_
    refine zl_iconst (v := 2) h dL_law_892 (by decide) ?_
    refine zl_iadd h dL_law_893 ?_
    refine zl_sld h g2 dL_law_894 ?_
    refine zl_aload_n h dL_law_895 0 rfl rfl ?_
    refine zl_iload_n h dL_law_896 3 rfl rfl ?_
    refine zl_iconst (v := 3) h dL_law_897 (by decide) ?_
    refine zl_iadd h dL_law_898 ?_
    refine zl_sld h g3 dL_law_899 ?_
    refine zl_if_eq (tgt := 907) h dL_law_900 (by decide) (fun z => absurd z cz) (fun _ => ?_)
    refine zl_iconst (v := 1) h dL_law_903 (by decide) ?_
    refine zl_goto (tgt := 908) h dL_law_904 (by decide) ?_
    refine zl_call1m (As := [.int (xs (x3 + 1).toNatClampNeg), .int (xs (x3 + 2).toNatClampNeg), .int 1]) h lC_0 zcw_L_115 (c_X11_clue (zad E a1) M1 (xs (x3 + 1).toNatClampNeg) (xs (x3 + 2).toNatClampNeg) 1 _ (hp M1 M2 (xs (x3 + 1).toNatClampNeg) (xs (x3 + 2).toNatClampNeg) 1 hR zisB_1)) (Nat.le_of_ble_eq_true rfl) rfl rfl (Nat.le_of_ble_eq_true rfl) dL_law_908 (fun r1 hk => ?_)
    refine zl_aload_n h dL_law_911 2 rfl rfl ?_
    refine zl_aload_n h dL_law_912 0 rfl rfl ?_
    refine zl_iload_n h dL_law_913 3 rfl rfl ?_
    refine zl_iconst (v := 1) h dL_law_914 (by decide) ?_
    refine zl_iadd h dL_law_915 ?_
    refine zl_sld h g1 dL_law_916 ?_
    refine zl_aload_n h dL_law_917 0 rfl rfl ?_
    refine zl_iload_n h dL_law_918 3 rfl rfl ?_
    refine zl_iconst (v := 2) h dL_law_919 (by decide) ?_
    refine zl_iadd h dL_law_920 ?_
    refine zl_sld h g2 dL_law_921 ?_
    refine zl_aload_n h dL_law_922 0 rfl rfl ?_
    refine zl_iload_n h dL_law_923 3 rfl rfl ?_
    refine zl_iconst (v := 3) h dL_law_924 (by decide) ?_
    refine zl_iadd h dL_law_925 ?_
    refine zl_sld h g3 dL_law_926 ?_
    refine zl_if_eq (tgt := 934) h dL_law_927 (by decide) (fun z => absurd z cz) (fun _ => ?_)
    refine zl_iconst (v := 1) h dL_law_930 (by decide) ?_
    refine zl_goto (tgt := 935) h dL_law_931 (by decide) ?_
    refine zl_call2m (As := [.int (xs (x3 + 1).toNatClampNeg), .int (xs (x3 + 2).toNatClampNeg), .int 1]) h lR_0 zcw_L_119 (c_X12_clue (zad E a2) M2 (xs (x3 + 1).toNatClampNeg) (xs (x3 + 2).toNatClampNeg) 1 _ hk) (Nat.le_of_ble_eq_true rfl) rfl rfl (Nat.le_of_ble_eq_true rfl) dL_law_935 (fun r2 hk => ?_)
    exact zl_icmp_eq (tgt := 1294) h dL_law_938 (by decide) (fun _ => hend r1.1 r2.1 hk.2) (fun z => absurd hk.1 z)
theorem zcw_L_120 : zCV R_law 120 11 yX11_clues cX11_clues 2 (some .int) 1 := ⟨RX11, TX11, 16, rfl, (List.forall_mem_cons.mpr ⟨(zm_51 _ (List.mem_of_getElem? (i := 22) rfl)), (List.forall_mem_cons.mpr ⟨(zm_51 _ (List.mem_of_getElem? (i := 23) rfl)), (List.forall_mem_cons.mpr ⟨(zm_52 _ (List.mem_of_getElem? (i := 0) rfl)), (List.forall_mem_cons.mpr ⟨(zm_1 _ (List.mem_of_getElem? (i := 2) rfl)), (List.forall_mem_cons.mpr ⟨(zm_52 _ (List.mem_of_getElem? (i := 1) rfl)), (fun _ h => absurd h List.not_mem_nil)⟩)⟩)⟩)⟩)⟩), ⟨rfl, by decide, by decide, by decide +kernel⟩, by decide⟩
theorem zcw_L_124 : zCV R_law 124 12 yX12_clues cX12_clues 5 (some .int) 1 := ⟨RX12, TX12, 46, rfl, (List.forall_mem_cons.mpr ⟨(zm_57 _ (List.mem_of_getElem? (i := 18) rfl)), (List.forall_mem_cons.mpr ⟨(zm_57 _ (List.mem_of_getElem? (i := 19) rfl)), (List.forall_mem_cons.mpr ⟨(zm_57 _ (List.mem_of_getElem? (i := 20) rfl)), (List.forall_mem_cons.mpr ⟨(zm_1 _ (List.mem_of_getElem? (i := 5) rfl)), (List.forall_mem_cons.mpr ⟨(zm_57 _ (List.mem_of_getElem? (i := 21) rfl)), (fun _ h => absurd h List.not_mem_nil)⟩)⟩)⟩)⟩)⟩), ⟨rfl, by decide, by decide, by decide +kernel⟩, by decide⟩
set_option maxRecDepth 100000 in
set_option maxHeartbeats 4000000 in
theorem zlaw_25 {E : ZEv} {a1 a2 : Nat → Nat} {G : ZLG} {b N : Nat} {xs : Nat → Int32} {cells slots : Nat} (h : zLu E a1 a2 G b N xs cells slots) {Rel : ZMem → ZMem → Prop} (hp : zPr_clues Rel) (x3 : Int32) (g1 : vp_in (x3 + 1) N) (g2 : vp_in (x3 + 2) N) (g3 : vp_in (x3 + 3) N) (g4 : vp_in (x3 + 4) N) (g5 : vp_in (x3 + 5) N) (hend : ∀ M1 M2 : ZMem, Rel M1 M2 → G M1 M2 1294 [(0, .ref b), (1, zrf (zad E a1) 0), (2, zrf (zad E a2) 0), (3, .int x3)] []) (M1 M2 : ZMem) (hR : Rel M1 M2) : G M1 M2 943 [(0, .ref b), (1, zrf (zad E a1) 0), (2, zrf (zad E a2) 0), (3, .int x3)] [] := by
  by_cases cz : xs (x3 + 1).toNatClampNeg = 0
  · refine zl_aload_n h dL_law_943 1 rfl rfl ?_
    refine zl_aload_n h dL_law_944 0 rfl rfl ?_
    refine zl_iload_n h dL_law_945 3 rfl rfl ?_
    refine zl_iconst (v := 1) h dL_law_946 (by decide) ?_
    refine zl_iadd h dL_law_947 ?_
    refine zl_sld h g1 dL_law_948 ?_
    refine zl_if_eq (tgt := 956) h dL_law_949 (by decide) (fun _ => ?_) (fun z => absurd cz z)
    refine zl_iconst (v := 0) h dL_law_956 (by decide) ?_
    refine zl_call1m (As := [.int 0]) h lC_0 zcw_L_120 (c_X11_clues (zad E a1) M1 0 _ (hp M1 M2 0 hR zisB_0)) (Nat.le_of_ble_eq_true rfl) rfl rfl (Nat.le_of_ble_eq_true rfl) dL_law_957 (fun r1 hk => ?_)
    refine zl_aload_n h dL_law_960 2 rfl rfl ?_
    refine zl_aload_n h dL_law_961 0 rfl rfl ?_
    refine zl_iload_n h dL_law_962 3 rfl rfl ?_
    refine zl_iconst (v := 1) h dL_law_963 (by decide) ?_
    refine zl_iadd h dL_law_964 ?_
    refine zl_sld h g1 dL_law_965 ?_
    refine zl_if_eq (tgt := 973) h dL_law_966 (by decide) (fun _ => ?_) (fun z => absurd cz z)
    refine zl_iconst (v := 0) h dL_law_973 (by decide) ?_
    refine zl_call2m (As := [.int 0]) h lR_0 zcw_L_124 (c_X12_clues (zad E a2) M2 0 _ hk) (Nat.le_of_ble_eq_true rfl) rfl rfl (Nat.le_of_ble_eq_true rfl) dL_law_974 (fun r2 hk => ?_)
    exact zl_icmp_eq (tgt := 1294) h dL_law_977 (by decide) (fun _ => hend r1.1 r2.1 hk.2) (fun z => absurd hk.1 z)
  · refine zl_aload_n h dL_law_943 1 rfl rfl ?_
    refine zl_aload_n h dL_law_944 0 rfl rfl ?_
    refine zl_iload_n h dL_law_945 3 rfl rfl ?_
    refine zl_iconst (v := 1) h dL_law_946 (by decide) ?_
    refine zl_iadd h dL_law_947 ?_
    refine zl_sld h g1 dL_law_948 ?_
    refine zl_if_eq (tgt := 956) h dL_law_949 (by decide) (fun z => absurd z cz) (fun _ => ?_)
    refine zl_iconst (v := 1) h dL_law_952 (by decide) ?_
    refine zl_goto (tgt := 957) h dL_law_953 (by decide) ?_
    refine zl_call1m (As := [.int 1]) h lC_0 zcw_L_120 (c_X11_clues (zad E a1) M1 1 _ (hp M1 M2 1 hR zisB_1)) (Nat.le_of_ble_eq_true rfl) rfl rfl (Nat.le_of_ble_eq_true rfl) dL_law_957 (fun r1 hk => ?_)
    refine zl_aload_n h dL_law_960 2 rfl rfl ?_
    refine zl_aload_n h dL_law_961 0 rfl rfl ?_
    refine zl_iload_n h dL_law_962 3 rfl rfl ?_
    refine zl_iconst (v := 1) h dL_law_963 (by decide) ?_
    refine zl_iadd h dL_law_964 ?_
    refine zl_sld h g1 dL_law_965 ?_
    refine zl_if_eq (tgt := 973) h dL_law_966 (by decide) (fun z => absurd z cz) (fun _ => ?_)
    refine zl_iconst (v := 1) h dL_law_969 (by decide) ?_
    refine zl_goto (tgt := 974) h dL_law_970 (by decide) ?_
    refine zl_call2m (As := [.int 1]) h lR_0 zcw_L_124 (c_X12_clues (zad E a2) M2 1 _ hk) (Nat.le_of_ble_eq_true rfl) rfl rfl (Nat.le_of_ble_eq_true rfl) dL_law_974 (fun r2 hk => ?_)
    exact zl_icmp_eq (tgt := 1294) h dL_law_977 (by decide) (fun _ => hend r1.1 r2.1 hk.2) (fun z => absurd hk.1 z)
theorem zcw_L_125 : zCV R_law 125 11 yX11_place cX11_place 3 (some .int) 2 := ⟨RX11, TX11, 16, rfl, (List.forall_mem_cons.mpr ⟨(zm_57 _ (List.mem_of_getElem? (i := 22) rfl)), (List.forall_mem_cons.mpr ⟨(zm_57 _ (List.mem_of_getElem? (i := 23) rfl)), (List.forall_mem_cons.mpr ⟨(zm_58 _ (List.mem_of_getElem? (i := 0) rfl)), (List.forall_mem_cons.mpr ⟨(zm_1 _ (List.mem_of_getElem? (i := 2) rfl)), (List.forall_mem_cons.mpr ⟨(zm_58 _ (List.mem_of_getElem? (i := 1) rfl)), (fun _ h => absurd h List.not_mem_nil)⟩)⟩)⟩)⟩)⟩), ⟨rfl, by decide, by decide, by decide +kernel⟩, by decide⟩
theorem zcw_L_129 : zCV R_law 129 12 yX12_place cX12_place 3 (some .int) 2 := ⟨RX12, TX12, 46, rfl, (List.forall_mem_cons.mpr ⟨(zm_58 _ (List.mem_of_getElem? (i := 3) rfl)), (List.forall_mem_cons.mpr ⟨(zm_58 _ (List.mem_of_getElem? (i := 4) rfl)), (List.forall_mem_cons.mpr ⟨(zm_58 _ (List.mem_of_getElem? (i := 5) rfl)), (List.forall_mem_cons.mpr ⟨(zm_1 _ (List.mem_of_getElem? (i := 5) rfl)), (List.forall_mem_cons.mpr ⟨(zm_58 _ (List.mem_of_getElem? (i := 6) rfl)), (fun _ h => absurd h List.not_mem_nil)⟩)⟩)⟩)⟩)⟩), ⟨rfl, by decide, by decide, by decide +kernel⟩, by decide⟩
set_option maxRecDepth 100000 in
set_option maxHeartbeats 4000000 in
theorem zlaw_26 {E : ZEv} {a1 a2 : Nat → Nat} {G : ZLG} {b N : Nat} {xs : Nat → Int32} {cells slots : Nat} (h : zLu E a1 a2 G b N xs cells slots) {Rel : ZMem → ZMem → Prop} (hp : zPr_place Rel) (x3 : Int32) (g1 : vp_in (x3 + 1) N) (g2 : vp_in (x3 + 2) N) (g3 : vp_in (x3 + 3) N) (g4 : vp_in (x3 + 4) N) (g5 : vp_in (x3 + 5) N) (hend : ∀ M1 M2 : ZMem, Rel M1 M2 → G M1 M2 1294 [(0, .ref b), (1, zrf (zad E a1) 0), (2, zrf (zad E a2) 0), (3, .int x3)] []) (M1 M2 : ZMem) (hR : Rel M1 M2) : G M1 M2 982 [(0, .ref b), (1, zrf (zad E a1) 0), (2, zrf (zad E a2) 0), (3, .int x3)] [] := by
  by_cases cz : xs (x3 + 2).toNatClampNeg = 0
  · refine zl_aload_n h dL_law_982 1 rfl rfl ?_
    refine zl_aload_n h dL_law_983 0 rfl rfl ?_
    refine zl_iload_n h dL_law_984 3 rfl rfl ?_
    refine zl_iconst (v := 1) h dL_law_985 (by decide) ?_
    refine zl_iadd h dL_law_986 ?_
    refine zl_sld h g1 dL_law_987 ?_
    refine zl_aload_n h dL_law_988 0 rfl rfl ?_
    refine zl_iload_n h dL_law_989 3 rfl rfl ?_
    refine zl_iconst (v := 2) h dL_law_990 (by decide) ?_
    refine zl_iadd h dL_law_991 ?_
    refine zl_sld h g2 dL_law_992 ?_
    refine zl_if_eq (tgt := 1000) h dL_law_993 (by decide) (fun _ => ?_) (fun z => absurd cz z)
    refine zl_iconst (v := 0) h dL_law_1000 (by decide) ?_
    refine zl_call1m (As := [.int (xs (x3 + 1).toNatClampNeg), .int 0]) h lC_0 zcw_L_125 (c_X11_place (zad E a1) M1 (xs (x3 + 1).toNatClampNeg) 0 _ (hp M1 M2 (xs (x3 + 1).toNatClampNeg) 0 hR zisB_0)) (Nat.le_of_ble_eq_true rfl) rfl rfl (Nat.le_of_ble_eq_true rfl) dL_law_1001 (fun r1 hk => ?_)
    refine zl_aload_n h dL_law_1004 2 rfl rfl ?_
    refine zl_aload_n h dL_law_1005 0 rfl rfl ?_
    refine zl_iload_n h dL_law_1006 3 rfl rfl ?_
    refine zl_iconst (v := 1) h dL_law_1007 (by decide) ?_
    refine zl_iadd h dL_law_1008 ?_
    refine zl_sld h g1 dL_law_1009 ?_
    refine zl_aload_n h dL_law_1010 0 rfl rfl ?_
    refine zl_iload_n h dL_law_1011 3 rfl rfl ?_
    refine zl_iconst (v := 2) h dL_law_1012 (by decide) ?_
    refine zl_iadd h dL_law_1013 ?_
    refine zl_sld h g2 dL_law_1014 ?_
    refine zl_if_eq (tgt := 1022) h dL_law_1015 (by decide) (fun _ => ?_) (fun z => absurd cz z)
    refine zl_iconst (v := 0) h dL_law_1022 (by decide) ?_
    refine zl_call2m (As := [.int (xs (x3 + 1).toNatClampNeg), .int 0]) h lR_0 zcw_L_129 (c_X12_place (zad E a2) M2 (xs (x3 + 1).toNatClampNeg) 0 _ hk) (Nat.le_of_ble_eq_true rfl) rfl rfl (Nat.le_of_ble_eq_true rfl) dL_law_1023 (fun r2 hk => ?_)
    exact zl_icmp_eq (tgt := 1294) h dL_law_1026 (by decide) (fun _ => hend r1.1 r2.1 hk.2) (fun z => absurd hk.1 z)
  · refine zl_aload_n h dL_law_982 1 rfl rfl ?_
    refine zl_aload_n h dL_law_983 0 rfl rfl ?_
    refine zl_iload_n h dL_law_984 3 rfl rfl ?_
    refine zl_iconst (v := 1) h dL_law_985 (by decide) ?_
    refine zl_iadd h dL_law_986 ?_
    refine zl_sld h g1 dL_law_987 ?_
    refine zl_aload_n h dL_law_988 0 rfl rfl ?_
    refine zl_iload_n h dL_law_989 3 rfl rfl ?_
    refine zl_iconst (v := 2) h dL_law_990 (by decide) ?_
    refine zl_iadd h dL_law_991 ?_
    refine zl_sld h g2 dL_law_992 ?_
    refine zl_if_eq (tgt := 1000) h dL_law_993 (by decide) (fun z => absurd z cz) (fun _ => ?_)
    refine zl_iconst (v := 1) h dL_law_996 (by decide) ?_
    refine zl_goto (tgt := 1001) h dL_law_997 (by decide) ?_
    refine zl_call1m (As := [.int (xs (x3 + 1).toNatClampNeg), .int 1]) h lC_0 zcw_L_125 (c_X11_place (zad E a1) M1 (xs (x3 + 1).toNatClampNeg) 1 _ (hp M1 M2 (xs (x3 + 1).toNatClampNeg) 1 hR zisB_1)) (Nat.le_of_ble_eq_true rfl) rfl rfl (Nat.le_of_ble_eq_true rfl) dL_law_1001 (fun r1 hk => ?_)
    refine zl_aload_n h dL_law_1004 2 rfl rfl ?_
    refine zl_aload_n h dL_law_1005 0 rfl rfl ?_
    refine zl_iload_n h dL_law_1006 3 rfl rfl ?_
    refine zl_iconst (v := 1) h dL_law_1007 (by decide) ?_
    refine zl_iadd h dL_law_1008 ?_
    refine zl_sld h g1 dL_law_1009 ?_
    refine zl_aload_n h dL_law_1010 0 rfl rfl ?_
    refine zl_iload_n h dL_law_1011 3 rfl rfl ?_
    refine zl_iconst (v := 2) h dL_law_1012 (by decide) ?_
    refine zl_iadd h dL_law_1013 ?_
    refine zl_sld h g2 dL_law_1014 ?_
    refine zl_if_eq (tgt := 1022) h dL_law_1015 (by decide) (fun z => absurd z cz) (fun _ => ?_)
    refine zl_iconst (v := 1) h dL_law_1018 (by decide) ?_
    refine zl_goto (tgt := 1023) h dL_law_1019 (by decide) ?_
    refine zl_call2m (As := [.int (xs (x3 + 1).toNatClampNeg), .int 1]) h lR_0 zcw_L_129 (c_X12_place (zad E a2) M2 (xs (x3 + 1).toNatClampNeg) 1 _ hk) (Nat.le_of_ble_eq_true rfl) rfl rfl (Nat.le_of_ble_eq_true rfl) dL_law_1023 (fun r2 hk => ?_)
    exact zl_icmp_eq (tgt := 1294) h dL_law_1026 (by decide) (fun _ => hend r1.1 r2.1 hk.2) (fun z => absurd hk.1 z)
theorem zcw_L_130 : zCV R_law 130 11 yX11_clash cX11_clash 4 (some .int) 1 := ⟨RX11, TX11, 16, rfl, (List.forall_mem_cons.mpr ⟨(zm_58 _ (List.mem_of_getElem? (i := 7) rfl)), (List.forall_mem_cons.mpr ⟨(zm_58 _ (List.mem_of_getElem? (i := 8) rfl)), (List.forall_mem_cons.mpr ⟨(zm_58 _ (List.mem_of_getElem? (i := 9) rfl)), (List.forall_mem_cons.mpr ⟨(zm_1 _ (List.mem_of_getElem? (i := 2) rfl)), (List.forall_mem_cons.mpr ⟨(zm_58 _ (List.mem_of_getElem? (i := 10) rfl)), (fun _ h => absurd h List.not_mem_nil)⟩)⟩)⟩)⟩)⟩), ⟨rfl, by decide, by decide, by decide +kernel⟩, by decide⟩
theorem zcw_L_133 : zCV R_law 133 12 yX12_clash cX12_clash 4 (some .int) 1 := ⟨RX12, TX12, 46, rfl, (List.forall_mem_cons.mpr ⟨(zm_59 _ (List.mem_of_getElem? (i := 4) rfl)), (List.forall_mem_cons.mpr ⟨(zm_59 _ (List.mem_of_getElem? (i := 5) rfl)), (List.forall_mem_cons.mpr ⟨(zm_59 _ (List.mem_of_getElem? (i := 6) rfl)), (List.forall_mem_cons.mpr ⟨(zm_1 _ (List.mem_of_getElem? (i := 5) rfl)), (List.forall_mem_cons.mpr ⟨(zm_59 _ (List.mem_of_getElem? (i := 7) rfl)), (fun _ h => absurd h List.not_mem_nil)⟩)⟩)⟩)⟩)⟩), ⟨rfl, by decide, by decide, by decide +kernel⟩, by decide⟩
set_option maxRecDepth 100000 in
set_option maxHeartbeats 4000000 in
theorem zlaw_27 {E : ZEv} {a1 a2 : Nat → Nat} {G : ZLG} {b N : Nat} {xs : Nat → Int32} {cells slots : Nat} (h : zLu E a1 a2 G b N xs cells slots) {Rel : ZMem → ZMem → Prop} (hp : zPr_clash Rel) (x3 : Int32) (g1 : vp_in (x3 + 1) N) (g2 : vp_in (x3 + 2) N) (g3 : vp_in (x3 + 3) N) (g4 : vp_in (x3 + 4) N) (g5 : vp_in (x3 + 5) N) (hend : ∀ M1 M2 : ZMem, Rel M1 M2 → G M1 M2 1294 [(0, .ref b), (1, zrf (zad E a1) 0), (2, zrf (zad E a2) 0), (3, .int x3)] []) (M1 M2 : ZMem) (hR : Rel M1 M2) : G M1 M2 1031 [(0, .ref b), (1, zrf (zad E a1) 0), (2, zrf (zad E a2) 0), (3, .int x3)] [] := by
  refine zl_aload_n h dL_law_1031 1 rfl rfl ?_
  refine zl_aload_n h dL_law_1032 0 rfl rfl ?_
  refine zl_iload_n h dL_law_1033 3 rfl rfl ?_
  refine zl_iconst (v := 1) h dL_law_1034 (by decide) ?_
  refine zl_iadd h dL_law_1035 ?_
  refine zl_sld h g1 dL_law_1036 ?_
  refine zl_call1m (As := [.int (xs (x3 + 1).toNatClampNeg)]) h lC_0 zcw_L_130 (c_X11_clash (zad E a1) M1 (xs (x3 + 1).toNatClampNeg) _ (hp M1 M2 (xs (x3 + 1).toNatClampNeg) hR)) (Nat.le_of_ble_eq_true rfl) rfl rfl (Nat.le_of_ble_eq_true rfl) dL_law_1037 (fun r1 hk => ?_)
  refine zl_aload_n h dL_law_1040 2 rfl rfl ?_
  refine zl_aload_n h dL_law_1041 0 rfl rfl ?_
  refine zl_iload_n h dL_law_1042 3 rfl rfl ?_
  refine zl_iconst (v := 1) h dL_law_1043 (by decide) ?_
  refine zl_iadd h dL_law_1044 ?_
  refine zl_sld h g1 dL_law_1045 ?_
  refine zl_call2m (As := [.int (xs (x3 + 1).toNatClampNeg)]) h lR_0 zcw_L_133 (c_X12_clash (zad E a2) M2 (xs (x3 + 1).toNatClampNeg) _ hk) (Nat.le_of_ble_eq_true rfl) rfl rfl (Nat.le_of_ble_eq_true rfl) dL_law_1046 (fun r2 hk => ?_)
  exact zl_icmp_eq (tgt := 1294) h dL_law_1049 (by decide) (fun _ => hend r1.1 r2.1 hk.2) (fun z => absurd hk.1 z)
theorem zcw_L_134 : zCV R_law 134 11 yX11_clashes cX11_clashes 4 (some .int) 0 := ⟨RX11, TX11, 16, rfl, (List.forall_mem_cons.mpr ⟨(zm_59 _ (List.mem_of_getElem? (i := 20) rfl)), (List.forall_mem_cons.mpr ⟨(zm_59 _ (List.mem_of_getElem? (i := 21) rfl)), (List.forall_mem_cons.mpr ⟨(zm_59 _ (List.mem_of_getElem? (i := 22) rfl)), (List.forall_mem_cons.mpr ⟨(zm_1 _ (List.mem_of_getElem? (i := 2) rfl)), (List.forall_mem_cons.mpr ⟨(zm_59 _ (List.mem_of_getElem? (i := 23) rfl)), (fun _ h => absurd h List.not_mem_nil)⟩)⟩)⟩)⟩)⟩), ⟨rfl, by decide, by decide, by decide +kernel⟩, by decide⟩
theorem zcw_L_137 : zCV R_law 137 12 yX12_clashes cX12_clashes 4 (some .int) 0 := ⟨RX12, TX12, 46, rfl, (List.forall_mem_cons.mpr ⟨(zm_60 _ (List.mem_of_getElem? (i := 0) rfl)), (List.forall_mem_cons.mpr ⟨(zm_60 _ (List.mem_of_getElem? (i := 1) rfl)), (List.forall_mem_cons.mpr ⟨(zm_60 _ (List.mem_of_getElem? (i := 2) rfl)), (List.forall_mem_cons.mpr ⟨(zm_1 _ (List.mem_of_getElem? (i := 5) rfl)), (List.forall_mem_cons.mpr ⟨(zm_60 _ (List.mem_of_getElem? (i := 3) rfl)), (fun _ h => absurd h List.not_mem_nil)⟩)⟩)⟩)⟩)⟩), ⟨rfl, by decide, by decide, by decide +kernel⟩, by decide⟩
set_option maxRecDepth 100000 in
set_option maxHeartbeats 4000000 in
theorem zlaw_28 {E : ZEv} {a1 a2 : Nat → Nat} {G : ZLG} {b N : Nat} {xs : Nat → Int32} {cells slots : Nat} (h : zLu E a1 a2 G b N xs cells slots) {Rel : ZMem → ZMem → Prop} (hp : zPr_clashes Rel) (x3 : Int32) (g1 : vp_in (x3 + 1) N) (g2 : vp_in (x3 + 2) N) (g3 : vp_in (x3 + 3) N) (g4 : vp_in (x3 + 4) N) (g5 : vp_in (x3 + 5) N) (hend : ∀ M1 M2 : ZMem, Rel M1 M2 → G M1 M2 1294 [(0, .ref b), (1, zrf (zad E a1) 0), (2, zrf (zad E a2) 0), (3, .int x3)] []) (M1 M2 : ZMem) (hR : Rel M1 M2) : G M1 M2 1054 [(0, .ref b), (1, zrf (zad E a1) 0), (2, zrf (zad E a2) 0), (3, .int x3)] [] := by
  refine zl_aload_n h dL_law_1054 1 rfl rfl ?_
  refine zl_call1m (As := []) h lC_0 zcw_L_134 (c_X11_clashes (zad E a1) M1 _ (hp M1 M2 hR)) (Nat.le_of_ble_eq_true rfl) rfl rfl (Nat.le_of_ble_eq_true rfl) dL_law_1055 (fun r1 hk => ?_)
  refine zl_aload_n h dL_law_1058 2 rfl rfl ?_
  refine zl_call2m (As := []) h lR_0 zcw_L_137 (c_X12_clashes (zad E a2) M2 _ hk) (Nat.le_of_ble_eq_true rfl) rfl rfl (Nat.le_of_ble_eq_true rfl) dL_law_1059 (fun r2 hk => ?_)
  exact zl_icmp_eq (tgt := 1294) h dL_law_1062 (by decide) (fun _ => hend r1.1 r2.1 hk.2) (fun z => absurd hk.1 z)
theorem zcw_L_138 : zCV R_law 138 11 yX11_guess cX11_guess 5 (some .int) 3 := ⟨RX11, TX11, 16, rfl, (List.forall_mem_cons.mpr ⟨(zm_60 _ (List.mem_of_getElem? (i := 4) rfl)), (List.forall_mem_cons.mpr ⟨(zm_60 _ (List.mem_of_getElem? (i := 5) rfl)), (List.forall_mem_cons.mpr ⟨(zm_60 _ (List.mem_of_getElem? (i := 6) rfl)), (List.forall_mem_cons.mpr ⟨(zm_1 _ (List.mem_of_getElem? (i := 2) rfl)), (List.forall_mem_cons.mpr ⟨(zm_60 _ (List.mem_of_getElem? (i := 7) rfl)), (fun _ h => absurd h List.not_mem_nil)⟩)⟩)⟩)⟩)⟩), ⟨rfl, by decide, by decide, by decide +kernel⟩, by decide⟩
theorem zcw_L_141 : zCV R_law 141 12 yX12_guess cX12_guess 6 (some .int) 3 := ⟨RX12, TX12, 46, rfl, (List.forall_mem_cons.mpr ⟨(zm_61 _ (List.mem_of_getElem? (i := 0) rfl)), (List.forall_mem_cons.mpr ⟨(zm_61 _ (List.mem_of_getElem? (i := 1) rfl)), (List.forall_mem_cons.mpr ⟨(zm_61 _ (List.mem_of_getElem? (i := 2) rfl)), (List.forall_mem_cons.mpr ⟨(zm_1 _ (List.mem_of_getElem? (i := 5) rfl)), (List.forall_mem_cons.mpr ⟨(zm_61 _ (List.mem_of_getElem? (i := 3) rfl)), (fun _ h => absurd h List.not_mem_nil)⟩)⟩)⟩)⟩)⟩), ⟨rfl, by decide, by decide, by decide +kernel⟩, by decide⟩
set_option maxRecDepth 100000 in
set_option maxHeartbeats 4000000 in
theorem zlaw_29 {E : ZEv} {a1 a2 : Nat → Nat} {G : ZLG} {b N : Nat} {xs : Nat → Int32} {cells slots : Nat} (h : zLu E a1 a2 G b N xs cells slots) {Rel : ZMem → ZMem → Prop} (hp : zPr_guess Rel) (x3 : Int32) (g1 : vp_in (x3 + 1) N) (g2 : vp_in (x3 + 2) N) (g3 : vp_in (x3 + 3) N) (g4 : vp_in (x3 + 4) N) (g5 : vp_in (x3 + 5) N) (hend : ∀ M1 M2 : ZMem, Rel M1 M2 → G M1 M2 1294 [(0, .ref b), (1, zrf (zad E a1) 0), (2, zrf (zad E a2) 0), (3, .int x3)] []) (M1 M2 : ZMem) (hR : Rel M1 M2) : G M1 M2 1067 [(0, .ref b), (1, zrf (zad E a1) 0), (2, zrf (zad E a2) 0), (3, .int x3)] [] := by
  refine zl_aload_n h dL_law_1067 1 rfl rfl ?_
  refine zl_aload_n h dL_law_1068 0 rfl rfl ?_
  refine zl_iload_n h dL_law_1069 3 rfl rfl ?_
  refine zl_iconst (v := 1) h dL_law_1070 (by decide) ?_
  refine zl_iadd h dL_law_1071 ?_
  refine zl_sld h g1 dL_law_1072 ?_
  refine zl_aload_n h dL_law_1073 0 rfl rfl ?_
  refine zl_iload_n h dL_law_1074 3 rfl rfl ?_
  refine zl_iconst (v := 2) h dL_law_1075 (by decide) ?_
  refine zl_iadd h dL_law_1076 ?_
  refine zl_sld h g2 dL_law_1077 ?_
  refine zl_aload_n h dL_law_1078 0 rfl rfl ?_
  refine zl_iload_n h dL_law_1079 3 rfl rfl ?_
  refine zl_iconst (v := 3) h dL_law_1080 (by decide) ?_
  refine zl_iadd h dL_law_1081 ?_
  refine zl_sld h g3 dL_law_1082 ?_
  refine zl_call1m (As := [.int (xs (x3 + 1).toNatClampNeg), .int (xs (x3 + 2).toNatClampNeg), .int (xs (x3 + 3).toNatClampNeg)]) h lC_0 zcw_L_138 (c_X11_guess (zad E a1) M1 (xs (x3 + 1).toNatClampNeg) (xs (x3 + 2).toNatClampNeg) (xs (x3 + 3).toNatClampNeg) _ (hp M1 M2 (xs (x3 + 1).toNatClampNeg) (xs (x3 + 2).toNatClampNeg) (xs (x3 + 3).toNatClampNeg) hR)) (Nat.le_of_ble_eq_true rfl) rfl rfl (Nat.le_of_ble_eq_true rfl) dL_law_1083 (fun r1 hk => ?_)
  refine zl_aload_n h dL_law_1086 2 rfl rfl ?_
  refine zl_aload_n h dL_law_1087 0 rfl rfl ?_
  refine zl_iload_n h dL_law_1088 3 rfl rfl ?_
  refine zl_iconst (v := 1) h dL_law_1089 (by decide) ?_
  refine zl_iadd h dL_law_1090 ?_
  refine zl_sld h g1 dL_law_1091 ?_
  refine zl_aload_n h dL_law_1092 0 rfl rfl ?_
  refine zl_iload_n h dL_law_1093 3 rfl rfl ?_
  refine zl_iconst (v := 2) h dL_law_1094 (by decide) ?_
  refine zl_iadd h dL_law_1095 ?_
  refine zl_sld h g2 dL_law_1096 ?_
  refine zl_aload_n h dL_law_1097 0 rfl rfl ?_
  refine zl_iload_n h dL_law_1098 3 rfl rfl ?_
  refine zl_iconst (v := 3) h dL_law_1099 (by decide) ?_
  refine zl_iadd h dL_law_1100 ?_
  refine zl_sld h g3 dL_law_1101 ?_
  refine zl_call2m (As := [.int (xs (x3 + 1).toNatClampNeg), .int (xs (x3 + 2).toNatClampNeg), .int (xs (x3 + 3).toNatClampNeg)]) h lR_0 zcw_L_141 (c_X12_guess (zad E a2) M2 (xs (x3 + 1).toNatClampNeg) (xs (x3 + 2).toNatClampNeg) (xs (x3 + 3).toNatClampNeg) _ hk) (Nat.le_of_ble_eq_true rfl) rfl rfl (Nat.le_of_ble_eq_true rfl) dL_law_1102 (fun r2 hk => ?_)
  exact zl_icmp_eq (tgt := 1294) h dL_law_1105 (by decide) (fun _ => hend r1.1 r2.1 hk.2) (fun z => absurd hk.1 z)
theorem zcw_L_142 : zCV R_law 142 11 yX11_known cX11_known 3 (some .int) 2 := ⟨RX11, TX11, 16, rfl, (List.forall_mem_cons.mpr ⟨(zm_61 _ (List.mem_of_getElem? (i := 16) rfl)), (List.forall_mem_cons.mpr ⟨(zm_61 _ (List.mem_of_getElem? (i := 17) rfl)), (List.forall_mem_cons.mpr ⟨(zm_61 _ (List.mem_of_getElem? (i := 18) rfl)), (List.forall_mem_cons.mpr ⟨(zm_1 _ (List.mem_of_getElem? (i := 2) rfl)), (List.forall_mem_cons.mpr ⟨(zm_61 _ (List.mem_of_getElem? (i := 19) rfl)), (fun _ h => absurd h List.not_mem_nil)⟩)⟩)⟩)⟩)⟩), ⟨rfl, by decide, by decide, by decide +kernel⟩, by decide⟩
theorem zcw_L_145 : zCV R_law 145 12 yX12_known cX12_known 3 (some .int) 2 := ⟨RX12, TX12, 46, rfl, (List.forall_mem_cons.mpr ⟨(zm_62 _ (List.mem_of_getElem? (i := 0) rfl)), (List.forall_mem_cons.mpr ⟨(zm_62 _ (List.mem_of_getElem? (i := 1) rfl)), (List.forall_mem_cons.mpr ⟨(zm_62 _ (List.mem_of_getElem? (i := 2) rfl)), (List.forall_mem_cons.mpr ⟨(zm_1 _ (List.mem_of_getElem? (i := 5) rfl)), (List.forall_mem_cons.mpr ⟨(zm_62 _ (List.mem_of_getElem? (i := 3) rfl)), (fun _ h => absurd h List.not_mem_nil)⟩)⟩)⟩)⟩)⟩), ⟨rfl, by decide, by decide, by decide +kernel⟩, by decide⟩
set_option maxRecDepth 100000 in
set_option maxHeartbeats 4000000 in
theorem zlaw_30 {E : ZEv} {a1 a2 : Nat → Nat} {G : ZLG} {b N : Nat} {xs : Nat → Int32} {cells slots : Nat} (h : zLu E a1 a2 G b N xs cells slots) {Rel : ZMem → ZMem → Prop} (hp : zPr_known Rel) (x3 : Int32) (g1 : vp_in (x3 + 1) N) (g2 : vp_in (x3 + 2) N) (g3 : vp_in (x3 + 3) N) (g4 : vp_in (x3 + 4) N) (g5 : vp_in (x3 + 5) N) (hend : ∀ M1 M2 : ZMem, Rel M1 M2 → G M1 M2 1294 [(0, .ref b), (1, zrf (zad E a1) 0), (2, zrf (zad E a2) 0), (3, .int x3)] []) (M1 M2 : ZMem) (hR : Rel M1 M2) : G M1 M2 1110 [(0, .ref b), (1, zrf (zad E a1) 0), (2, zrf (zad E a2) 0), (3, .int x3)] [] := by
  refine zl_aload_n h dL_law_1110 1 rfl rfl ?_
  refine zl_aload_n h dL_law_1111 0 rfl rfl ?_
  refine zl_iload_n h dL_law_1112 3 rfl rfl ?_
  refine zl_iconst (v := 1) h dL_law_1113 (by decide) ?_
  refine zl_iadd h dL_law_1114 ?_
  refine zl_sld h g1 dL_law_1115 ?_
  refine zl_aload_n h dL_law_1116 0 rfl rfl ?_
  refine zl_iload_n h dL_law_1117 3 rfl rfl ?_
  refine zl_iconst (v := 2) h dL_law_1118 (by decide) ?_
  refine zl_iadd h dL_law_1119 ?_
  refine zl_sld h g2 dL_law_1120 ?_
  refine zl_call1m (As := [.int (xs (x3 + 1).toNatClampNeg), .int (xs (x3 + 2).toNatClampNeg)]) h lC_0 zcw_L_142 (c_X11_known (zad E a1) M1 (xs (x3 + 1).toNatClampNeg) (xs (x3 + 2).toNatClampNeg) _ (hp M1 M2 (xs (x3 + 1).toNatClampNeg) (xs (x3 + 2).toNatClampNeg) hR)) (Nat.le_of_ble_eq_true rfl) rfl rfl (Nat.le_of_ble_eq_true rfl) dL_law_1121 (fun r1 hk => ?_)
  refine zl_aload_n h dL_law_1124 2 rfl rfl ?_
  refine zl_aload_n h dL_law_1125 0 rfl rfl ?_
  refine zl_iload_n h dL_law_1126 3 rfl rfl ?_
  refine zl_iconst (v := 1) h dL_law_1127 (by decide) ?_
  refine zl_iadd h dL_law_1128 ?_
  refine zl_sld h g1 dL_law_1129 ?_
  refine zl_aload_n h dL_law_1130 0 rfl rfl ?_
  refine zl_iload_n h dL_law_1131 3 rfl rfl ?_
  refine zl_iconst (v := 2) h dL_law_1132 (by decide) ?_
  refine zl_iadd h dL_law_1133 ?_
  refine zl_sld h g2 dL_law_1134 ?_
  refine zl_call2m (As := [.int (xs (x3 + 1).toNatClampNeg), .int (xs (x3 + 2).toNatClampNeg)]) h lR_0 zcw_L_145 (c_X12_known (zad E a2) M2 (xs (x3 + 1).toNatClampNeg) (xs (x3 + 2).toNatClampNeg) _ hk) (Nat.le_of_ble_eq_true rfl) rfl rfl (Nat.le_of_ble_eq_true rfl) dL_law_1135 (fun r2 hk => ?_)
  exact zl_icmp_eq (tgt := 1294) h dL_law_1138 (by decide) (fun _ => hend r1.1 r2.1 hk.2) (fun z => absurd hk.1 z)
theorem zcw_L_146 : zCV R_law 146 11 yX11_fits cX11_fits 3 (some .int) 2 := ⟨RX11, TX11, 16, rfl, (List.forall_mem_cons.mpr ⟨(zm_62 _ (List.mem_of_getElem? (i := 4) rfl)), (List.forall_mem_cons.mpr ⟨(zm_62 _ (List.mem_of_getElem? (i := 5) rfl)), (List.forall_mem_cons.mpr ⟨(zm_62 _ (List.mem_of_getElem? (i := 6) rfl)), (List.forall_mem_cons.mpr ⟨(zm_1 _ (List.mem_of_getElem? (i := 2) rfl)), (List.forall_mem_cons.mpr ⟨(zm_62 _ (List.mem_of_getElem? (i := 7) rfl)), (fun _ h => absurd h List.not_mem_nil)⟩)⟩)⟩)⟩)⟩), ⟨rfl, by decide, by decide, by decide +kernel⟩, by decide⟩
theorem zcw_L_149 : zCV R_law 149 12 yX12_fits cX12_fits 5 (some .int) 2 := ⟨RX12, TX12, 46, rfl, (List.forall_mem_cons.mpr ⟨(zm_62 _ (List.mem_of_getElem? (i := 21) rfl)), (List.forall_mem_cons.mpr ⟨(zm_62 _ (List.mem_of_getElem? (i := 22) rfl)), (List.forall_mem_cons.mpr ⟨(zm_62 _ (List.mem_of_getElem? (i := 23) rfl)), (List.forall_mem_cons.mpr ⟨(zm_1 _ (List.mem_of_getElem? (i := 5) rfl)), (List.forall_mem_cons.mpr ⟨(zm_63 _ (List.mem_of_getElem? (i := 0) rfl)), (fun _ h => absurd h List.not_mem_nil)⟩)⟩)⟩)⟩)⟩), ⟨rfl, by decide, by decide, by decide +kernel⟩, by decide⟩
set_option maxRecDepth 100000 in
set_option maxHeartbeats 4000000 in
theorem zlaw_31 {E : ZEv} {a1 a2 : Nat → Nat} {G : ZLG} {b N : Nat} {xs : Nat → Int32} {cells slots : Nat} (h : zLu E a1 a2 G b N xs cells slots) {Rel : ZMem → ZMem → Prop} (hp : zPr_fits Rel) (x3 : Int32) (g1 : vp_in (x3 + 1) N) (g2 : vp_in (x3 + 2) N) (g3 : vp_in (x3 + 3) N) (g4 : vp_in (x3 + 4) N) (g5 : vp_in (x3 + 5) N) (hend : ∀ M1 M2 : ZMem, Rel M1 M2 → G M1 M2 1294 [(0, .ref b), (1, zrf (zad E a1) 0), (2, zrf (zad E a2) 0), (3, .int x3)] []) (M1 M2 : ZMem) (hR : Rel M1 M2) : G M1 M2 1143 [(0, .ref b), (1, zrf (zad E a1) 0), (2, zrf (zad E a2) 0), (3, .int x3)] [] := by
  refine zl_aload_n h dL_law_1143 1 rfl rfl ?_
  refine zl_aload_n h dL_law_1144 0 rfl rfl ?_
  refine zl_iload_n h dL_law_1145 3 rfl rfl ?_
  refine zl_iconst (v := 1) h dL_law_1146 (by decide) ?_
  refine zl_iadd h dL_law_1147 ?_
  refine zl_sld h g1 dL_law_1148 ?_
  refine zl_aload_n h dL_law_1149 0 rfl rfl ?_
  refine zl_iload_n h dL_law_1150 3 rfl rfl ?_
  refine zl_iconst (v := 2) h dL_law_1151 (by decide) ?_
  refine zl_iadd h dL_law_1152 ?_
  refine zl_sld h g2 dL_law_1153 ?_
  refine zl_call1m (As := [.int (xs (x3 + 1).toNatClampNeg), .int (xs (x3 + 2).toNatClampNeg)]) h lC_0 zcw_L_146 (c_X11_fits (zad E a1) M1 (xs (x3 + 1).toNatClampNeg) (xs (x3 + 2).toNatClampNeg) _ (hp M1 M2 (xs (x3 + 1).toNatClampNeg) (xs (x3 + 2).toNatClampNeg) hR)) (Nat.le_of_ble_eq_true rfl) rfl rfl (Nat.le_of_ble_eq_true rfl) dL_law_1154 (fun r1 hk => ?_)
  refine zl_aload_n h dL_law_1157 2 rfl rfl ?_
  refine zl_aload_n h dL_law_1158 0 rfl rfl ?_
  refine zl_iload_n h dL_law_1159 3 rfl rfl ?_
  refine zl_iconst (v := 1) h dL_law_1160 (by decide) ?_
  refine zl_iadd h dL_law_1161 ?_
  refine zl_sld h g1 dL_law_1162 ?_
  refine zl_aload_n h dL_law_1163 0 rfl rfl ?_
  refine zl_iload_n h dL_law_1164 3 rfl rfl ?_
  refine zl_iconst (v := 2) h dL_law_1165 (by decide) ?_
  refine zl_iadd h dL_law_1166 ?_
  refine zl_sld h g2 dL_law_1167 ?_
  refine zl_call2m (As := [.int (xs (x3 + 1).toNatClampNeg), .int (xs (x3 + 2).toNatClampNeg)]) h lR_0 zcw_L_149 (c_X12_fits (zad E a2) M2 (xs (x3 + 1).toNatClampNeg) (xs (x3 + 2).toNatClampNeg) _ hk) (Nat.le_of_ble_eq_true rfl) rfl rfl (Nat.le_of_ble_eq_true rfl) dL_law_1168 (fun r2 hk => ?_)
  exact zl_icmp_eq (tgt := 1294) h dL_law_1171 (by decide) (fun _ => hend r1.1 r2.1 hk.2) (fun z => absurd hk.1 z)
theorem zcw_L_150 : zCV R_law 150 11 yX11_hits cX11_hits 1 (some .int) 0 := ⟨RX11, TX11, 16, rfl, (List.forall_mem_cons.mpr ⟨(zm_63 _ (List.mem_of_getElem? (i := 9) rfl)), (List.forall_mem_cons.mpr ⟨(zm_63 _ (List.mem_of_getElem? (i := 10) rfl)), (List.forall_mem_cons.mpr ⟨(zm_63 _ (List.mem_of_getElem? (i := 11) rfl)), (List.forall_mem_cons.mpr ⟨(zm_1 _ (List.mem_of_getElem? (i := 2) rfl)), (List.forall_mem_cons.mpr ⟨(zm_63 _ (List.mem_of_getElem? (i := 12) rfl)), (fun _ h => absurd h List.not_mem_nil)⟩)⟩)⟩)⟩)⟩), ⟨rfl, by decide, by decide, by decide +kernel⟩, by decide⟩
theorem zcw_L_153 : zCV R_law 153 12 yX12_hits cX12_hits 1 (some .int) 0 := ⟨RX12, TX12, 46, rfl, (List.forall_mem_cons.mpr ⟨(zm_63 _ (List.mem_of_getElem? (i := 17) rfl)), (List.forall_mem_cons.mpr ⟨(zm_63 _ (List.mem_of_getElem? (i := 18) rfl)), (List.forall_mem_cons.mpr ⟨(zm_63 _ (List.mem_of_getElem? (i := 19) rfl)), (List.forall_mem_cons.mpr ⟨(zm_1 _ (List.mem_of_getElem? (i := 5) rfl)), (List.forall_mem_cons.mpr ⟨(zm_63 _ (List.mem_of_getElem? (i := 20) rfl)), (fun _ h => absurd h List.not_mem_nil)⟩)⟩)⟩)⟩)⟩), ⟨rfl, by decide, by decide, by decide +kernel⟩, by decide⟩
set_option maxRecDepth 100000 in
set_option maxHeartbeats 4000000 in
theorem zlaw_32 {E : ZEv} {a1 a2 : Nat → Nat} {G : ZLG} {b N : Nat} {xs : Nat → Int32} {cells slots : Nat} (h : zLu E a1 a2 G b N xs cells slots) {Rel : ZMem → ZMem → Prop} (hp : zPr_hits Rel) (x3 : Int32) (g1 : vp_in (x3 + 1) N) (g2 : vp_in (x3 + 2) N) (g3 : vp_in (x3 + 3) N) (g4 : vp_in (x3 + 4) N) (g5 : vp_in (x3 + 5) N) (hend : ∀ M1 M2 : ZMem, Rel M1 M2 → G M1 M2 1294 [(0, .ref b), (1, zrf (zad E a1) 0), (2, zrf (zad E a2) 0), (3, .int x3)] []) (M1 M2 : ZMem) (hR : Rel M1 M2) : G M1 M2 1176 [(0, .ref b), (1, zrf (zad E a1) 0), (2, zrf (zad E a2) 0), (3, .int x3)] [] := by
  refine zl_aload_n h dL_law_1176 1 rfl rfl ?_
  refine zl_call1m (As := []) h lC_0 zcw_L_150 (c_X11_hits (zad E a1) M1 _ (hp M1 M2 hR)) (Nat.le_of_ble_eq_true rfl) rfl rfl (Nat.le_of_ble_eq_true rfl) dL_law_1177 (fun r1 hk => ?_)
  refine zl_aload_n h dL_law_1180 2 rfl rfl ?_
  refine zl_call2m (As := []) h lR_0 zcw_L_153 (c_X12_hits (zad E a2) M2 _ hk) (Nat.le_of_ble_eq_true rfl) rfl rfl (Nat.le_of_ble_eq_true rfl) dL_law_1181 (fun r2 hk => ?_)
  exact zl_icmp_eq (tgt := 1294) h dL_law_1184 (by decide) (fun _ => hend r1.1 r2.1 hk.2) (fun z => absurd hk.1 z)
theorem zcw_L_154 : zCV R_law 154 11 yX11_ways cX11_ways 2 (some .int) 1 := ⟨RX11, TX11, 16, rfl, (List.forall_mem_cons.mpr ⟨(zm_64 _ (List.mem_of_getElem? (i := 1) rfl)), (List.forall_mem_cons.mpr ⟨(zm_64 _ (List.mem_of_getElem? (i := 2) rfl)), (List.forall_mem_cons.mpr ⟨(zm_64 _ (List.mem_of_getElem? (i := 3) rfl)), (List.forall_mem_cons.mpr ⟨(zm_1 _ (List.mem_of_getElem? (i := 2) rfl)), (List.forall_mem_cons.mpr ⟨(zm_64 _ (List.mem_of_getElem? (i := 4) rfl)), (fun _ h => absurd h List.not_mem_nil)⟩)⟩)⟩)⟩)⟩), ⟨rfl, by decide, by decide, by decide +kernel⟩, by decide⟩
theorem zcw_L_157 : zCV R_law 157 12 yX12_ways cX12_ways 2 (some .int) 1 := ⟨RX12, TX12, 46, rfl, (List.forall_mem_cons.mpr ⟨(zm_67 _ (List.mem_of_getElem? (i := 0) rfl)), (List.forall_mem_cons.mpr ⟨(zm_67 _ (List.mem_of_getElem? (i := 1) rfl)), (List.forall_mem_cons.mpr ⟨(zm_67 _ (List.mem_of_getElem? (i := 2) rfl)), (List.forall_mem_cons.mpr ⟨(zm_1 _ (List.mem_of_getElem? (i := 5) rfl)), (List.forall_mem_cons.mpr ⟨(zm_67 _ (List.mem_of_getElem? (i := 3) rfl)), (fun _ h => absurd h List.not_mem_nil)⟩)⟩)⟩)⟩)⟩), ⟨rfl, by decide, by decide, by decide +kernel⟩, by decide⟩
set_option maxRecDepth 100000 in
set_option maxHeartbeats 4000000 in
theorem zlaw_33 {E : ZEv} {a1 a2 : Nat → Nat} {G : ZLG} {b N : Nat} {xs : Nat → Int32} {cells slots : Nat} (h : zLu E a1 a2 G b N xs cells slots) {Rel : ZMem → ZMem → Prop} (hp : zPr_ways Rel) (x3 : Int32) (g1 : vp_in (x3 + 1) N) (g2 : vp_in (x3 + 2) N) (g3 : vp_in (x3 + 3) N) (g4 : vp_in (x3 + 4) N) (g5 : vp_in (x3 + 5) N) (hend : ∀ M1 M2 : ZMem, Rel M1 M2 → G M1 M2 1294 [(0, .ref b), (1, zrf (zad E a1) 0), (2, zrf (zad E a2) 0), (3, .int x3)] []) (M1 M2 : ZMem) (hR : Rel M1 M2) : G M1 M2 1189 [(0, .ref b), (1, zrf (zad E a1) 0), (2, zrf (zad E a2) 0), (3, .int x3)] [] := by
  refine zl_aload_n h dL_law_1189 1 rfl rfl ?_
  refine zl_aload_n h dL_law_1190 0 rfl rfl ?_
  refine zl_iload_n h dL_law_1191 3 rfl rfl ?_
  refine zl_iconst (v := 1) h dL_law_1192 (by decide) ?_
  refine zl_iadd h dL_law_1193 ?_
  refine zl_sld h g1 dL_law_1194 ?_
  refine zl_call1m (As := [.int (xs (x3 + 1).toNatClampNeg)]) h lC_0 zcw_L_154 (c_X11_ways (zad E a1) M1 (xs (x3 + 1).toNatClampNeg) _ (hp M1 M2 (xs (x3 + 1).toNatClampNeg) hR)) (Nat.le_of_ble_eq_true rfl) rfl rfl (Nat.le_of_ble_eq_true rfl) dL_law_1195 (fun r1 hk => ?_)
  refine zl_aload_n h dL_law_1198 2 rfl rfl ?_
  refine zl_aload_n h dL_law_1199 0 rfl rfl ?_
  refine zl_iload_n h dL_law_1200 3 rfl rfl ?_
  refine zl_iconst (v := 1) h dL_law_1201 (by decide) ?_
  refine zl_iadd h dL_law_1202 ?_
  refine zl_sld h g1 dL_law_1203 ?_
  refine zl_call2m (As := [.int (xs (x3 + 1).toNatClampNeg)]) h lR_0 zcw_L_157 (c_X12_ways (zad E a2) M2 (xs (x3 + 1).toNatClampNeg) _ hk) (Nat.le_of_ble_eq_true rfl) rfl rfl (Nat.le_of_ble_eq_true rfl) dL_law_1204 (fun r2 hk => ?_)
  exact zl_icmp_eq (tgt := 1294) h dL_law_1207 (by decide) (fun _ => hend r1.1 r2.1 hk.2) (fun z => absurd hk.1 z)
theorem zcw_L_158 : zCV R_law 158 11 yX11_draws cX11_draws 3 (some .int) 1 := ⟨RX11, TX11, 16, rfl, (List.forall_mem_cons.mpr ⟨(zm_67 _ (List.mem_of_getElem? (i := 21) rfl)), (List.forall_mem_cons.mpr ⟨(zm_67 _ (List.mem_of_getElem? (i := 22) rfl)), (List.forall_mem_cons.mpr ⟨(zm_67 _ (List.mem_of_getElem? (i := 23) rfl)), (List.forall_mem_cons.mpr ⟨(zm_1 _ (List.mem_of_getElem? (i := 2) rfl)), (List.forall_mem_cons.mpr ⟨(zm_68 _ (List.mem_of_getElem? (i := 0) rfl)), (fun _ h => absurd h List.not_mem_nil)⟩)⟩)⟩)⟩)⟩), ⟨rfl, by decide, by decide, by decide +kernel⟩, by decide⟩
theorem zcw_L_161 : zCV R_law 161 12 yX12_draws cX12_draws 3 (some .int) 1 := ⟨RX12, TX12, 46, rfl, (List.forall_mem_cons.mpr ⟨(zm_68 _ (List.mem_of_getElem? (i := 2) rfl)), (List.forall_mem_cons.mpr ⟨(zm_68 _ (List.mem_of_getElem? (i := 3) rfl)), (List.forall_mem_cons.mpr ⟨(zm_68 _ (List.mem_of_getElem? (i := 4) rfl)), (List.forall_mem_cons.mpr ⟨(zm_1 _ (List.mem_of_getElem? (i := 5) rfl)), (List.forall_mem_cons.mpr ⟨(zm_68 _ (List.mem_of_getElem? (i := 5) rfl)), (fun _ h => absurd h List.not_mem_nil)⟩)⟩)⟩)⟩)⟩), ⟨rfl, by decide, by decide, by decide +kernel⟩, by decide⟩
set_option maxRecDepth 100000 in
set_option maxHeartbeats 4000000 in
theorem zlaw_34 {E : ZEv} {a1 a2 : Nat → Nat} {G : ZLG} {b N : Nat} {xs : Nat → Int32} {cells slots : Nat} (h : zLu E a1 a2 G b N xs cells slots) {Rel : ZMem → ZMem → Prop} (hp : zPr_draws Rel) (x3 : Int32) (g1 : vp_in (x3 + 1) N) (g2 : vp_in (x3 + 2) N) (g3 : vp_in (x3 + 3) N) (g4 : vp_in (x3 + 4) N) (g5 : vp_in (x3 + 5) N) (hend : ∀ M1 M2 : ZMem, Rel M1 M2 → G M1 M2 1294 [(0, .ref b), (1, zrf (zad E a1) 0), (2, zrf (zad E a2) 0), (3, .int x3)] []) (M1 M2 : ZMem) (hR : Rel M1 M2) : G M1 M2 1212 [(0, .ref b), (1, zrf (zad E a1) 0), (2, zrf (zad E a2) 0), (3, .int x3)] [] := by
  refine zl_aload_n h dL_law_1212 1 rfl rfl ?_
  refine zl_aload_n h dL_law_1213 0 rfl rfl ?_
  refine zl_iload_n h dL_law_1214 3 rfl rfl ?_
  refine zl_iconst (v := 1) h dL_law_1215 (by decide) ?_
  refine zl_iadd h dL_law_1216 ?_
  refine zl_sld h g1 dL_law_1217 ?_
  refine zl_call1m (As := [.int (xs (x3 + 1).toNatClampNeg)]) h lC_0 zcw_L_158 (c_X11_draws (zad E a1) M1 (xs (x3 + 1).toNatClampNeg) _ (hp M1 M2 (xs (x3 + 1).toNatClampNeg) hR)) (Nat.le_of_ble_eq_true rfl) rfl rfl (Nat.le_of_ble_eq_true rfl) dL_law_1218 (fun r1 hk => ?_)
  refine zl_aload_n h dL_law_1221 2 rfl rfl ?_
  refine zl_aload_n h dL_law_1222 0 rfl rfl ?_
  refine zl_iload_n h dL_law_1223 3 rfl rfl ?_
  refine zl_iconst (v := 1) h dL_law_1224 (by decide) ?_
  refine zl_iadd h dL_law_1225 ?_
  refine zl_sld h g1 dL_law_1226 ?_
  refine zl_call2m (As := [.int (xs (x3 + 1).toNatClampNeg)]) h lR_0 zcw_L_161 (c_X12_draws (zad E a2) M2 (xs (x3 + 1).toNatClampNeg) _ hk) (Nat.le_of_ble_eq_true rfl) rfl rfl (Nat.le_of_ble_eq_true rfl) dL_law_1227 (fun r2 hk => ?_)
  exact zl_icmp_eq (tgt := 1294) h dL_law_1230 (by decide) (fun _ => hend r1.1 r2.1 hk.2) (fun z => absurd hk.1 z)
theorem zcw_L_162 : zCV R_law 162 11 yX11_test cX11_test 2 (some .int) 1 := ⟨RX11, TX11, 16, rfl, (List.forall_mem_cons.mpr ⟨(zm_68 _ (List.mem_of_getElem? (i := 7) rfl)), (List.forall_mem_cons.mpr ⟨(zm_68 _ (List.mem_of_getElem? (i := 8) rfl)), (List.forall_mem_cons.mpr ⟨(zm_68 _ (List.mem_of_getElem? (i := 9) rfl)), (List.forall_mem_cons.mpr ⟨(zm_1 _ (List.mem_of_getElem? (i := 2) rfl)), (List.forall_mem_cons.mpr ⟨(zm_68 _ (List.mem_of_getElem? (i := 10) rfl)), (fun _ h => absurd h List.not_mem_nil)⟩)⟩)⟩)⟩)⟩), ⟨rfl, by decide, by decide, by decide +kernel⟩, by decide⟩
theorem zcw_L_165 : zCV R_law 165 12 yX12_test cX12_test 7 (some .int) 1 := ⟨RX12, TX12, 46, rfl, (List.forall_mem_cons.mpr ⟨(zm_69 _ (List.mem_of_getElem? (i := 2) rfl)), (List.forall_mem_cons.mpr ⟨(zm_69 _ (List.mem_of_getElem? (i := 3) rfl)), (List.forall_mem_cons.mpr ⟨(zm_69 _ (List.mem_of_getElem? (i := 4) rfl)), (List.forall_mem_cons.mpr ⟨(zm_1 _ (List.mem_of_getElem? (i := 5) rfl)), (List.forall_mem_cons.mpr ⟨(zm_69 _ (List.mem_of_getElem? (i := 5) rfl)), (fun _ h => absurd h List.not_mem_nil)⟩)⟩)⟩)⟩)⟩), ⟨rfl, by decide, by decide, by decide +kernel⟩, by decide⟩
set_option maxRecDepth 100000 in
set_option maxHeartbeats 4000000 in
theorem zlaw_35 {E : ZEv} {a1 a2 : Nat → Nat} {G : ZLG} {b N : Nat} {xs : Nat → Int32} {cells slots : Nat} (h : zLu E a1 a2 G b N xs cells slots) {Rel : ZMem → ZMem → Prop} (hp : zPr_test Rel) (x3 : Int32) (g1 : vp_in (x3 + 1) N) (g2 : vp_in (x3 + 2) N) (g3 : vp_in (x3 + 3) N) (g4 : vp_in (x3 + 4) N) (g5 : vp_in (x3 + 5) N) (hend : ∀ M1 M2 : ZMem, Rel M1 M2 → G M1 M2 1294 [(0, .ref b), (1, zrf (zad E a1) 0), (2, zrf (zad E a2) 0), (3, .int x3)] []) (M1 M2 : ZMem) (hR : Rel M1 M2) : G M1 M2 1235 [(0, .ref b), (1, zrf (zad E a1) 0), (2, zrf (zad E a2) 0), (3, .int x3)] [] := by
  refine zl_aload_n h dL_law_1235 1 rfl rfl ?_
  refine zl_aload_n h dL_law_1236 0 rfl rfl ?_
  refine zl_iload_n h dL_law_1237 3 rfl rfl ?_
  refine zl_iconst (v := 1) h dL_law_1238 (by decide) ?_
  refine zl_iadd h dL_law_1239 ?_
  refine zl_sld h g1 dL_law_1240 ?_
  refine zl_call1m (As := [.int (xs (x3 + 1).toNatClampNeg)]) h lC_0 zcw_L_162 (c_X11_test (zad E a1) M1 (xs (x3 + 1).toNatClampNeg) _ (hp M1 M2 (xs (x3 + 1).toNatClampNeg) hR)) (Nat.le_of_ble_eq_true rfl) rfl rfl (Nat.le_of_ble_eq_true rfl) dL_law_1241 (fun r1 hk => ?_)
  refine zl_aload_n h dL_law_1244 2 rfl rfl ?_
  refine zl_aload_n h dL_law_1245 0 rfl rfl ?_
  refine zl_iload_n h dL_law_1246 3 rfl rfl ?_
  refine zl_iconst (v := 1) h dL_law_1247 (by decide) ?_
  refine zl_iadd h dL_law_1248 ?_
  refine zl_sld h g1 dL_law_1249 ?_
  refine zl_call2m (As := [.int (xs (x3 + 1).toNatClampNeg)]) h lR_0 zcw_L_165 (c_X12_test (zad E a2) M2 (xs (x3 + 1).toNatClampNeg) _ hk) (Nat.le_of_ble_eq_true rfl) rfl rfl (Nat.le_of_ble_eq_true rfl) dL_law_1250 (fun r2 hk => ?_)
  exact zl_icmp_eq (tgt := 1294) h dL_law_1253 (by decide) (fun _ => hend r1.1 r2.1 hk.2) (fun z => absurd hk.1 z)
theorem zcw_L_166 : zCV R_law 166 11 yX11_undo cX11_undo 2 (some .int) 0 := ⟨RX11, TX11, 16, rfl, (List.forall_mem_cons.mpr ⟨(zm_69 _ (List.mem_of_getElem? (i := 22) rfl)), (List.forall_mem_cons.mpr ⟨(zm_69 _ (List.mem_of_getElem? (i := 23) rfl)), (List.forall_mem_cons.mpr ⟨(zm_70 _ (List.mem_of_getElem? (i := 0) rfl)), (List.forall_mem_cons.mpr ⟨(zm_1 _ (List.mem_of_getElem? (i := 2) rfl)), (List.forall_mem_cons.mpr ⟨(zm_70 _ (List.mem_of_getElem? (i := 1) rfl)), (fun _ h => absurd h List.not_mem_nil)⟩)⟩)⟩)⟩)⟩), ⟨rfl, by decide, by decide, by decide +kernel⟩, by decide⟩
theorem zcw_L_169 : zCV R_law 169 12 yX12_undo cX12_undo 2 (some .int) 0 := ⟨RX12, TX12, 46, rfl, (List.forall_mem_cons.mpr ⟨(zm_70 _ (List.mem_of_getElem? (i := 10) rfl)), (List.forall_mem_cons.mpr ⟨(zm_70 _ (List.mem_of_getElem? (i := 11) rfl)), (List.forall_mem_cons.mpr ⟨(zm_70 _ (List.mem_of_getElem? (i := 12) rfl)), (List.forall_mem_cons.mpr ⟨(zm_1 _ (List.mem_of_getElem? (i := 5) rfl)), (List.forall_mem_cons.mpr ⟨(zm_70 _ (List.mem_of_getElem? (i := 13) rfl)), (fun _ h => absurd h List.not_mem_nil)⟩)⟩)⟩)⟩)⟩), ⟨rfl, by decide, by decide, by decide +kernel⟩, by decide⟩
set_option maxRecDepth 100000 in
set_option maxHeartbeats 4000000 in
theorem zlaw_36 {E : ZEv} {a1 a2 : Nat → Nat} {G : ZLG} {b N : Nat} {xs : Nat → Int32} {cells slots : Nat} (h : zLu E a1 a2 G b N xs cells slots) {Rel : ZMem → ZMem → Prop} (hp : zPr_undo Rel) (x3 : Int32) (g1 : vp_in (x3 + 1) N) (g2 : vp_in (x3 + 2) N) (g3 : vp_in (x3 + 3) N) (g4 : vp_in (x3 + 4) N) (g5 : vp_in (x3 + 5) N) (hend : ∀ M1 M2 : ZMem, Rel M1 M2 → G M1 M2 1294 [(0, .ref b), (1, zrf (zad E a1) 0), (2, zrf (zad E a2) 0), (3, .int x3)] []) (M1 M2 : ZMem) (hR : Rel M1 M2) : G M1 M2 1258 [(0, .ref b), (1, zrf (zad E a1) 0), (2, zrf (zad E a2) 0), (3, .int x3)] [] := by
  refine zl_aload_n h dL_law_1258 1 rfl rfl ?_
  refine zl_call1m (As := []) h lC_0 zcw_L_166 (c_X11_undo (zad E a1) M1 _ (hp M1 M2 hR)) (Nat.le_of_ble_eq_true rfl) rfl rfl (Nat.le_of_ble_eq_true rfl) dL_law_1259 (fun r1 hk => ?_)
  refine zl_aload_n h dL_law_1262 2 rfl rfl ?_
  refine zl_call2m (As := []) h lR_0 zcw_L_169 (c_X12_undo (zad E a2) M2 _ hk) (Nat.le_of_ble_eq_true rfl) rfl rfl (Nat.le_of_ble_eq_true rfl) dL_law_1263 (fun r2 hk => ?_)
  exact zl_icmp_eq (tgt := 1294) h dL_law_1266 (by decide) (fun _ => hend r1.1 r2.1 hk.2) (fun z => absurd hk.1 z)
theorem zcw_L_170 : zCV R_law 170 11 yX11_count cX11_count 2 (some .int) 1 := ⟨RX11, TX11, 16, rfl, (List.forall_mem_cons.mpr ⟨(zm_70 _ (List.mem_of_getElem? (i := 14) rfl)), (List.forall_mem_cons.mpr ⟨(zm_70 _ (List.mem_of_getElem? (i := 15) rfl)), (List.forall_mem_cons.mpr ⟨(zm_70 _ (List.mem_of_getElem? (i := 16) rfl)), (List.forall_mem_cons.mpr ⟨(zm_1 _ (List.mem_of_getElem? (i := 2) rfl)), (List.forall_mem_cons.mpr ⟨(zm_70 _ (List.mem_of_getElem? (i := 17) rfl)), (fun _ h => absurd h List.not_mem_nil)⟩)⟩)⟩)⟩)⟩), ⟨rfl, by decide, by decide, by decide +kernel⟩, by decide⟩
theorem zcw_L_173 : zCV R_law 173 12 yX12_count cX12_count 2 (some .int) 1 := ⟨RX12, TX12, 46, rfl, (List.forall_mem_cons.mpr ⟨(zm_71 _ (List.mem_of_getElem? (i := 22) rfl)), (List.forall_mem_cons.mpr ⟨(zm_71 _ (List.mem_of_getElem? (i := 23) rfl)), (List.forall_mem_cons.mpr ⟨(zm_72 _ (List.mem_of_getElem? (i := 0) rfl)), (List.forall_mem_cons.mpr ⟨(zm_1 _ (List.mem_of_getElem? (i := 5) rfl)), (List.forall_mem_cons.mpr ⟨(zm_72 _ (List.mem_of_getElem? (i := 1) rfl)), (fun _ h => absurd h List.not_mem_nil)⟩)⟩)⟩)⟩)⟩), ⟨rfl, by decide, by decide, by decide +kernel⟩, by decide⟩
set_option maxRecDepth 100000 in
set_option maxHeartbeats 4000000 in
theorem zlaw_37 {E : ZEv} {a1 a2 : Nat → Nat} {G : ZLG} {b N : Nat} {xs : Nat → Int32} {cells slots : Nat} (h : zLu E a1 a2 G b N xs cells slots) {Rel : ZMem → ZMem → Prop} (hp : zPr_count Rel) (x3 : Int32) (g1 : vp_in (x3 + 1) N) (g2 : vp_in (x3 + 2) N) (g3 : vp_in (x3 + 3) N) (g4 : vp_in (x3 + 4) N) (g5 : vp_in (x3 + 5) N) (hend : ∀ M1 M2 : ZMem, Rel M1 M2 → G M1 M2 1294 [(0, .ref b), (1, zrf (zad E a1) 0), (2, zrf (zad E a2) 0), (3, .int x3)] []) (M1 M2 : ZMem) (hR : Rel M1 M2) : G M1 M2 1271 [(0, .ref b), (1, zrf (zad E a1) 0), (2, zrf (zad E a2) 0), (3, .int x3)] [] := by
  refine zl_aload_n h dL_law_1271 1 rfl rfl ?_
  refine zl_aload_n h dL_law_1272 0 rfl rfl ?_
  refine zl_iload_n h dL_law_1273 3 rfl rfl ?_
  refine zl_iconst (v := 1) h dL_law_1274 (by decide) ?_
  refine zl_iadd h dL_law_1275 ?_
  refine zl_sld h g1 dL_law_1276 ?_
  refine zl_call1m (As := [.int (xs (x3 + 1).toNatClampNeg)]) h lC_0 zcw_L_170 (c_X11_count (zad E a1) M1 (xs (x3 + 1).toNatClampNeg) _ (hp M1 M2 (xs (x3 + 1).toNatClampNeg) hR)) (Nat.le_of_ble_eq_true rfl) rfl rfl (Nat.le_of_ble_eq_true rfl) dL_law_1277 (fun r1 hk => ?_)
  refine zl_aload_n h dL_law_1280 2 rfl rfl ?_
  refine zl_aload_n h dL_law_1281 0 rfl rfl ?_
  refine zl_iload_n h dL_law_1282 3 rfl rfl ?_
  refine zl_iconst (v := 1) h dL_law_1283 (by decide) ?_
  refine zl_iadd h dL_law_1284 ?_
  refine zl_sld h g1 dL_law_1285 ?_
  refine zl_call2m (As := [.int (xs (x3 + 1).toNatClampNeg)]) h lR_0 zcw_L_173 (c_X12_count (zad E a2) M2 (xs (x3 + 1).toNatClampNeg) _ hk) (Nat.le_of_ble_eq_true rfl) rfl rfl (Nat.le_of_ble_eq_true rfl) dL_law_1286 (fun r2 hk => ?_)
  exact zl_icmp_eq (tgt := 1294) h dL_law_1289 (by decide) (fun _ => hend r1.1 r2.1 hk.2) (fun z => absurd hk.1 z)
theorem zl_bound {N i : Nat} (hN : N ≤ 3072) (hi : i ≤ 4000) (h : ¬ (Int32.ofNat N - 6 < nI i)) : i + 6 ≤ N := by
  have h1 : (nI N - nI 6).toInt = (N : Int) - 6 := pk_sub_toInt (by omega) (by omega)
  have h2 : (nI i).toInt = (i : Int) := nI_toInt (by omega)
  have h3 : ¬ ((nI N - nI 6).toInt < (nI i).toInt) := fun z => h (Int32.lt_iff_toInt_lt.mpr z)
  rw [h1, h2] at h3
  omega
set_option maxRecDepth 100000 in
set_option maxHeartbeats 4000000 in
theorem zlaw_loop {E : ZEv} {a1 a2 : Nat → Nat} {G : ZLG} {b N : Nat} {xs : Nat → Int32} {cells slots : Nat} (h : zLu E a1 a2 G b N xs cells slots) {Rel : ZMem → ZMem → Prop} (hp : zPairs Rel) (hN : N ≤ 3072) : ∀ (n i : Nat) (M1 M2 : ZMem), N + 6 ≤ n + i → i ≤ N + 6 → Rel M1 M2 → G M1 M2 18 [(0, .ref b), (1, zrf (zad E a1) 0), (2, zrf (zad E a2) 0), (3, .int (nI i))] [] := by
  intro n
  induction n with
  | zero =>
    intro i M1 M2 h1 h2 hR
    refine zl_iload_n h dL_law_18 3 rfl rfl ?_
    refine zl_aload_n h dL_law_19 0 rfl rfl ?_
    refine zl_slen h dL_law_20 ?_
    refine zl_bipush (v := 6) h dL_law_21 (by decide) ?_
    refine zl_isub h dL_law_23 ?_
    refine zl_icmp_gt (tgt := 1300) h dL_law_24 (by decide) (fun c => ?_) (fun c => ?_)
    · refine zl_iconst (v := 1) h dL_law_1300 (by decide) ?_
      exact zl_ret h dL_law_1301
    · have := zl_bound hN (by omega) c
      omega
  | succ n ih =>
    intro i M1 M2 h1 h2 hR
    refine zl_iload_n h dL_law_18 3 rfl rfl ?_
    refine zl_aload_n h dL_law_19 0 rfl rfl ?_
    refine zl_slen h dL_law_20 ?_
    refine zl_bipush (v := 6) h dL_law_21 (by decide) ?_
    refine zl_isub h dL_law_23 ?_
    refine zl_icmp_gt (tgt := 1300) h dL_law_24 (by decide) (fun c => ?_) (fun c => ?_)
    · refine zl_iconst (v := 1) h dL_law_1300 (by decide) ?_
      exact zl_ret h dL_law_1301
    have hb6 := zl_bound hN (by omega) c
    refine zl_aload_n h dL_law_27 0 rfl rfl ?_
    refine zl_iload_n h dL_law_28 3 rfl rfl ?_
    refine zl_sld h (vp_in_nI (by omega) (by omega)) dL_law_29 ?_
    refine zl_bipush (v := 63) h dL_law_30 (by decide) ?_
    refine zl_iand h dL_law_32 ?_
    have g1 : vp_in (nI i + 1) N := by rw [show nI i + 1 = nI (i + 1) from nI_1 i]; exact vp_in_nI (by omega) (by omega)
    have g2 : vp_in (nI i + 2) N := by rw [show nI i + 2 = nI (i + 2) from nI_add i 2]; exact vp_in_nI (by omega) (by omega)
    have g3 : vp_in (nI i + 3) N := by rw [show nI i + 3 = nI (i + 3) from nI_add i 3]; exact vp_in_nI (by omega) (by omega)
    have g4 : vp_in (nI i + 4) N := by rw [show nI i + 4 = nI (i + 4) from nI_add i 4]; exact vp_in_nI (by omega) (by omega)
    have g5 : vp_in (nI i + 5) N := by rw [show nI i + 5 = nI (i + 5) from nI_add i 5]; exact vp_in_nI (by omega) (by omega)
    have hend : ∀ M1 M2 : ZMem, Rel M1 M2 → G M1 M2 1294 [(0, .ref b), (1, zrf (zad E a1) 0), (2, zrf (zad E a2) 0), (3, .int (nI i))] [] := by
      intro M1 M2 hR
      refine zl_iinc (v := nI (i + 6)) (L' := [(0, .ref b), (1, zrf (zad E a1) 0), (2, zrf (zad E a2) 0), (3, .int (nI (i + 6)))]) h 3 [1, 2, 3, 0] dL_law_1294 rfl (nI_add i 6) (by decide) rfl ?_
      refine zl_goto (tgt := 18) h dL_law_1297 (by decide) ?_
      exact ih (i + 6) M1 M2 (by omega) (by omega) hR
    obtain ⟨hp0, hp1, hp2, hp3, hp4, hp5, hp6, hp7, hp8, hp9, hp10, hp11, hp12, hp13, hp14, hp15, hp16, hp17, hp18, hp19, hp20, hp21, hp22, hp23, hp24, hp25, hp26, hp27, hp28, hp29, hp30, hp31, hp32, hp33, hp34, hp35, hp36, hp37⟩ := hp
    generalize (xs (nI i).toNatClampNeg) &&& 63 = z
    by_cases c0 : z = 0
    · refine zl_tabIn (tgt := 200) (off := 167) h dL_law_33 (by rw [c0]; decide) (by rw [c0]; decide) (by rw [c0]; decide) (by decide) ?_
      exact zlaw_0 h hp0 (nI i) g1 g2 g3 g4 g5 hend M1 M2 hR
    by_cases c1 : z = 1
    · refine zl_tabIn (tgt := 263) (off := 230) h dL_law_33 (by rw [c1]; decide) (by rw [c1]; decide) (by rw [c1]; decide) (by decide) ?_
      exact zlaw_1 h hp1 (nI i) g1 g2 g3 g4 g5 hend M1 M2 hR
    by_cases c2 : z = 2
    · refine zl_tabIn (tgt := 286) (off := 253) h dL_law_33 (by rw [c2]; decide) (by rw [c2]; decide) (by rw [c2]; decide) (by decide) ?_
      exact zlaw_2 h hp2 (nI i) g1 g2 g3 g4 g5 hend M1 M2 hR
    by_cases c3 : z = 3
    · refine zl_tabIn (tgt := 299) (off := 266) h dL_law_33 (by rw [c3]; decide) (by rw [c3]; decide) (by rw [c3]; decide) (by decide) ?_
      exact zlaw_3 h hp3 (nI i) g1 g2 g3 g4 g5 hend M1 M2 hR
    by_cases c4 : z = 4
    · refine zl_tabIn (tgt := 312) (off := 279) h dL_law_33 (by rw [c4]; decide) (by rw [c4]; decide) (by rw [c4]; decide) (by decide) ?_
      exact zlaw_4 h hp4 (nI i) g1 g2 g3 g4 g5 hend M1 M2 hR
    by_cases c5 : z = 5
    · refine zl_tabIn (tgt := 325) (off := 292) h dL_law_33 (by rw [c5]; decide) (by rw [c5]; decide) (by rw [c5]; decide) (by decide) ?_
      exact zlaw_5 h hp5 (nI i) g1 g2 g3 g4 g5 hend M1 M2 hR
    by_cases c6 : z = 6
    · refine zl_tabIn (tgt := 358) (off := 325) h dL_law_33 (by rw [c6]; decide) (by rw [c6]; decide) (by rw [c6]; decide) (by decide) ?_
      exact zlaw_6 h hp6 (nI i) g1 g2 g3 g4 g5 hend M1 M2 hR
    by_cases c7 : z = 7
    · refine zl_tabIn (tgt := 381) (off := 348) h dL_law_33 (by rw [c7]; decide) (by rw [c7]; decide) (by rw [c7]; decide) (by decide) ?_
      exact zlaw_7 h hp7 (nI i) g1 g2 g3 g4 g5 hend M1 M2 hR
    by_cases c8 : z = 8
    · refine zl_tabIn (tgt := 404) (off := 371) h dL_law_33 (by rw [c8]; decide) (by rw [c8]; decide) (by rw [c8]; decide) (by decide) ?_
      exact zlaw_8 h hp8 (nI i) g1 g2 g3 g4 g5 hend M1 M2 hR
    by_cases c9 : z = 9
    · refine zl_tabIn (tgt := 437) (off := 404) h dL_law_33 (by rw [c9]; decide) (by rw [c9]; decide) (by rw [c9]; decide) (by decide) ?_
      exact zlaw_9 h hp9 (nI i) g1 g2 g3 g4 g5 hend M1 M2 hR
    by_cases c10 : z = 10
    · refine zl_tabIn (tgt := 460) (off := 427) h dL_law_33 (by rw [c10]; decide) (by rw [c10]; decide) (by rw [c10]; decide) (by decide) ?_
      exact zlaw_10 h hp10 (nI i) g1 g2 g3 g4 g5 hend M1 M2 hR
    by_cases c11 : z = 11
    · refine zl_tabIn (tgt := 519) (off := 486) h dL_law_33 (by rw [c11]; decide) (by rw [c11]; decide) (by rw [c11]; decide) (by decide) ?_
      exact zlaw_11 h hp11 (nI i) g1 g2 g3 g4 g5 hend M1 M2 hR
    by_cases c12 : z = 12
    · refine zl_tabIn (tgt := 578) (off := 545) h dL_law_33 (by rw [c12]; decide) (by rw [c12]; decide) (by rw [c12]; decide) (by decide) ?_
      exact zlaw_12 h hp12 (nI i) g1 g2 g3 g4 g5 hend M1 M2 hR
    by_cases c13 : z = 13
    · refine zl_tabIn (tgt := 601) (off := 568) h dL_law_33 (by rw [c13]; decide) (by rw [c13]; decide) (by rw [c13]; decide) (by decide) ?_
      exact zlaw_13 h hp13 (nI i) g1 g2 g3 g4 g5 hend M1 M2 hR
    by_cases c14 : z = 14
    · refine zl_tabIn (tgt := 624) (off := 591) h dL_law_33 (by rw [c14]; decide) (by rw [c14]; decide) (by rw [c14]; decide) (by decide) ?_
      exact zlaw_14 h hp14 (nI i) g1 g2 g3 g4 g5 hend M1 M2 hR
    by_cases c15 : z = 15
    · refine zl_tabIn (tgt := 667) (off := 634) h dL_law_33 (by rw [c15]; decide) (by rw [c15]; decide) (by rw [c15]; decide) (by decide) ?_
      exact zlaw_15 h hp15 (nI i) g1 g2 g3 g4 g5 hend M1 M2 hR
    by_cases c16 : z = 16
    · refine zl_tabIn (tgt := 680) (off := 647) h dL_law_33 (by rw [c16]; decide) (by rw [c16]; decide) (by rw [c16]; decide) (by decide) ?_
      exact zlaw_16 h hp16 (nI i) g1 g2 g3 g4 g5 hend M1 M2 hR
    by_cases c17 : z = 17
    · refine zl_tabIn (tgt := 693) (off := 660) h dL_law_33 (by rw [c17]; decide) (by rw [c17]; decide) (by rw [c17]; decide) (by decide) ?_
      exact zlaw_17 h hp17 (nI i) g1 g2 g3 g4 g5 hend M1 M2 hR
    by_cases c18 : z = 18
    · refine zl_tabIn (tgt := 716) (off := 683) h dL_law_33 (by rw [c18]; decide) (by rw [c18]; decide) (by rw [c18]; decide) (by decide) ?_
      exact zlaw_18 h hp18 (nI i) g1 g2 g3 g4 g5 hend M1 M2 hR
    by_cases c19 : z = 19
    · refine zl_tabIn (tgt := 729) (off := 696) h dL_law_33 (by rw [c19]; decide) (by rw [c19]; decide) (by rw [c19]; decide) (by decide) ?_
      exact zlaw_19 h hp19 (nI i) g1 g2 g3 g4 g5 hend M1 M2 hR
    by_cases c20 : z = 20
    · refine zl_tabIn (tgt := 762) (off := 729) h dL_law_33 (by rw [c20]; decide) (by rw [c20]; decide) (by rw [c20]; decide) (by decide) ?_
      exact zlaw_20 h hp20 (nI i) g1 g2 g3 g4 g5 hend M1 M2 hR
    by_cases c21 : z = 21
    · refine zl_tabIn (tgt := 785) (off := 752) h dL_law_33 (by rw [c21]; decide) (by rw [c21]; decide) (by rw [c21]; decide) (by decide) ?_
      exact zlaw_21 h hp21 (nI i) g1 g2 g3 g4 g5 hend M1 M2 hR
    by_cases c22 : z = 22
    · refine zl_tabIn (tgt := 818) (off := 785) h dL_law_33 (by rw [c22]; decide) (by rw [c22]; decide) (by rw [c22]; decide) (by decide) ?_
      exact zlaw_22 h hp22 (nI i) g1 g2 g3 g4 g5 hend M1 M2 hR
    by_cases c23 : z = 23
    · refine zl_tabIn (tgt := 851) (off := 818) h dL_law_33 (by rw [c23]; decide) (by rw [c23]; decide) (by rw [c23]; decide) (by decide) ?_
      exact zlaw_23 h hp23 (nI i) g1 g2 g3 g4 g5 hend M1 M2 hR
    by_cases c24 : z = 24
    · refine zl_tabIn (tgt := 884) (off := 851) h dL_law_33 (by rw [c24]; decide) (by rw [c24]; decide) (by rw [c24]; decide) (by decide) ?_
      exact zlaw_24 h hp24 (nI i) g1 g2 g3 g4 g5 hend M1 M2 hR
    by_cases c25 : z = 25
    · refine zl_tabIn (tgt := 943) (off := 910) h dL_law_33 (by rw [c25]; decide) (by rw [c25]; decide) (by rw [c25]; decide) (by decide) ?_
      exact zlaw_25 h hp25 (nI i) g1 g2 g3 g4 g5 hend M1 M2 hR
    by_cases c26 : z = 26
    · refine zl_tabIn (tgt := 982) (off := 949) h dL_law_33 (by rw [c26]; decide) (by rw [c26]; decide) (by rw [c26]; decide) (by decide) ?_
      exact zlaw_26 h hp26 (nI i) g1 g2 g3 g4 g5 hend M1 M2 hR
    by_cases c27 : z = 27
    · refine zl_tabIn (tgt := 1031) (off := 998) h dL_law_33 (by rw [c27]; decide) (by rw [c27]; decide) (by rw [c27]; decide) (by decide) ?_
      exact zlaw_27 h hp27 (nI i) g1 g2 g3 g4 g5 hend M1 M2 hR
    by_cases c28 : z = 28
    · refine zl_tabIn (tgt := 1054) (off := 1021) h dL_law_33 (by rw [c28]; decide) (by rw [c28]; decide) (by rw [c28]; decide) (by decide) ?_
      exact zlaw_28 h hp28 (nI i) g1 g2 g3 g4 g5 hend M1 M2 hR
    by_cases c29 : z = 29
    · refine zl_tabIn (tgt := 1067) (off := 1034) h dL_law_33 (by rw [c29]; decide) (by rw [c29]; decide) (by rw [c29]; decide) (by decide) ?_
      exact zlaw_29 h hp29 (nI i) g1 g2 g3 g4 g5 hend M1 M2 hR
    by_cases c30 : z = 30
    · refine zl_tabIn (tgt := 1110) (off := 1077) h dL_law_33 (by rw [c30]; decide) (by rw [c30]; decide) (by rw [c30]; decide) (by decide) ?_
      exact zlaw_30 h hp30 (nI i) g1 g2 g3 g4 g5 hend M1 M2 hR
    by_cases c31 : z = 31
    · refine zl_tabIn (tgt := 1143) (off := 1110) h dL_law_33 (by rw [c31]; decide) (by rw [c31]; decide) (by rw [c31]; decide) (by decide) ?_
      exact zlaw_31 h hp31 (nI i) g1 g2 g3 g4 g5 hend M1 M2 hR
    by_cases c32 : z = 32
    · refine zl_tabIn (tgt := 1176) (off := 1143) h dL_law_33 (by rw [c32]; decide) (by rw [c32]; decide) (by rw [c32]; decide) (by decide) ?_
      exact zlaw_32 h hp32 (nI i) g1 g2 g3 g4 g5 hend M1 M2 hR
    by_cases c33 : z = 33
    · refine zl_tabIn (tgt := 1189) (off := 1156) h dL_law_33 (by rw [c33]; decide) (by rw [c33]; decide) (by rw [c33]; decide) (by decide) ?_
      exact zlaw_33 h hp33 (nI i) g1 g2 g3 g4 g5 hend M1 M2 hR
    by_cases c34 : z = 34
    · refine zl_tabIn (tgt := 1212) (off := 1179) h dL_law_33 (by rw [c34]; decide) (by rw [c34]; decide) (by rw [c34]; decide) (by decide) ?_
      exact zlaw_34 h hp34 (nI i) g1 g2 g3 g4 g5 hend M1 M2 hR
    by_cases c35 : z = 35
    · refine zl_tabIn (tgt := 1235) (off := 1202) h dL_law_33 (by rw [c35]; decide) (by rw [c35]; decide) (by rw [c35]; decide) (by decide) ?_
      exact zlaw_35 h hp35 (nI i) g1 g2 g3 g4 g5 hend M1 M2 hR
    by_cases c36 : z = 36
    · refine zl_tabIn (tgt := 1258) (off := 1225) h dL_law_33 (by rw [c36]; decide) (by rw [c36]; decide) (by rw [c36]; decide) (by decide) ?_
      exact zlaw_36 h hp36 (nI i) g1 g2 g3 g4 g5 hend M1 M2 hR
    by_cases c37 : z = 37
    · refine zl_tabIn (tgt := 1271) (off := 1238) h dL_law_33 (by rw [c37]; decide) (by rw [c37]; decide) (by rw [c37]; decide) (by decide) ?_
      exact zlaw_37 h hp37 (nI i) g1 g2 g3 g4 g5 hend M1 M2 hR
    have hz : z.toInt ≠ 0 ∧ z.toInt ≠ 1 ∧ z.toInt ≠ 2 ∧ z.toInt ≠ 3 ∧ z.toInt ≠ 4 ∧ z.toInt ≠ 5 ∧ z.toInt ≠ 6 ∧ z.toInt ≠ 7 ∧ z.toInt ≠ 8 ∧ z.toInt ≠ 9 ∧ z.toInt ≠ 10 ∧ z.toInt ≠ 11 ∧ z.toInt ≠ 12 ∧ z.toInt ≠ 13 ∧ z.toInt ≠ 14 ∧ z.toInt ≠ 15 ∧ z.toInt ≠ 16 ∧ z.toInt ≠ 17 ∧ z.toInt ≠ 18 ∧ z.toInt ≠ 19 ∧ z.toInt ≠ 20 ∧ z.toInt ≠ 21 ∧ z.toInt ≠ 22 ∧ z.toInt ≠ 23 ∧ z.toInt ≠ 24 ∧ z.toInt ≠ 25 ∧ z.toInt ≠ 26 ∧ z.toInt ≠ 27 ∧ z.toInt ≠ 28 ∧ z.toInt ≠ 29 ∧ z.toInt ≠ 30 ∧ z.toInt ≠ 31 ∧ z.toInt ≠ 32 ∧ z.toInt ≠ 33 ∧ z.toInt ≠ 34 ∧ z.toInt ≠ 35 ∧ z.toInt ≠ 36 ∧ z.toInt ≠ 37 := ⟨zInt_ne c0, zInt_ne c1, zInt_ne c2, zInt_ne c3, zInt_ne c4, zInt_ne c5, zInt_ne c6, zInt_ne c7, zInt_ne c8, zInt_ne c9, zInt_ne c10, zInt_ne c11, zInt_ne c12, zInt_ne c13, zInt_ne c14, zInt_ne c15, zInt_ne c16, zInt_ne c17, zInt_ne c18, zInt_ne c19, zInt_ne c20, zInt_ne c21, zInt_ne c22, zInt_ne c23, zInt_ne c24, zInt_ne c25, zInt_ne c26, zInt_ne c27, zInt_ne c28, zInt_ne c29, zInt_ne c30, zInt_ne c31, zInt_ne c32, zInt_ne c33, zInt_ne c34, zInt_ne c35, zInt_ne c36, zInt_ne c37⟩
    refine zl_tabOut (tgt := 1294) h dL_law_33 (by omega) (by decide) ?_
    exact hend M1 M2 hR
