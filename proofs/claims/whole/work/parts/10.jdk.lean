
/-! what stands by hand: a method that answers an object; the texts of consonants and vowels -/
def zRq (E : ZEv) (M : ZMem) (j : Nat) : ZR := fun M' v => M' = M ∧ v = some (zrf E j)
theorem zr_callVq {ly : List ZEnt} {E : ZEv} {G : ZG} {Ret : ZR} {cc : ByteArray} {own : String} {nL : Nat} {rt : Option FieldType} {lev : Nat} {M : ZMem} {pc : Nat} {L : List (Nat × Value)} {st stk : List Value} {index n maxL lev' : Nat} {y : MethodName} {bytes : ByteArray} {ret : Option FieldType} {As : List Value} (h : zRu ly E G Ret cc own nL rt lev) {q ci : Nat} {fl : List (Option Nat)} (hq : ly[q]? = some (.inr (ci, fl))) (hw : zCV own index ci y bytes maxL ret n) (hlev : lev' < lev) {j : Nat} (hM : zCon ly E y bytes maxL ret lev' (zrf E q :: As) M (zRq E M j)) (hn : As.length = n) (hst : As.reverse ++ zrf E q :: st = stk) (hc : (st.map fun v => v.category).sum ≤ 8) (d : decode cc pc = .ok (.invokevirtual index, 3)) (kk : G M (pc + 3) L (zrf E j :: st)) : G M pc L stk := zr_callV h hq hw hlev hM hn hst hc d (fun M' v hr => by obtain ⟨rfl, rfl⟩ := hr; exact kk)
/-- which of the letters it is, -1: none of them -/
def zidx (w : Nat) (c : Int32) : Int32 := if w = 0 then (if c = 112 then 0 else if c = 116 then 1 else if c = 107 then 2 else if c = 109 then 3 else if c = 110 then 4 else if c = 114 then 5 else if c = 108 then 6 else if c = 115 then 7 else if c = 119 then 8 else if c = 106 then 9 else -1) else (if c = 97 then 0 else if c = 101 then 1 else if c = 105 then 2 else if c = 111 then 3 else if c = 117 then 4 else -1)
def f_X4_kindOf (w : Nat) (b : Int32) : Option Int32 := some (if b = -1 then -1 else zidx w ((b.toUInt32 % 65536).toInt32))

theorem dJ6_bitCount_0f7a4_0 : decode cJ6_bitCount_0f7a4 0 = .ok (.iload_n 0, 1) := by decide +kernel
theorem dJ6_bitCount_0f7a4_1 : decode cJ6_bitCount_0f7a4 1 = .ok (.iload_n 0, 1) := by decide +kernel
theorem dJ6_bitCount_0f7a4_2 : decode cJ6_bitCount_0f7a4 2 = .ok (.iconst 1, 1) := by decide +kernel
theorem dJ6_bitCount_0f7a4_3 : decode cJ6_bitCount_0f7a4 3 = .ok (.iushr, 1) := by decide +kernel
theorem dJ6_bitCount_0f7a4_4 : decode cJ6_bitCount_0f7a4 4 = .ok (.ldc_w 265, 3) := by decide +kernel
theorem dJ6_bitCount_0f7a4_7 : decode cJ6_bitCount_0f7a4 7 = .ok (.iand, 1) := by decide +kernel
theorem dJ6_bitCount_0f7a4_8 : decode cJ6_bitCount_0f7a4 8 = .ok (.isub, 1) := by decide +kernel
theorem dJ6_bitCount_0f7a4_9 : decode cJ6_bitCount_0f7a4 9 = .ok (.istore_n 0, 1) := by decide +kernel
theorem dJ6_bitCount_0f7a4_10 : decode cJ6_bitCount_0f7a4 10 = .ok (.iload_n 0, 1) := by decide +kernel
theorem dJ6_bitCount_0f7a4_11 : decode cJ6_bitCount_0f7a4 11 = .ok (.ldc_w 266, 3) := by decide +kernel
theorem dJ6_bitCount_0f7a4_14 : decode cJ6_bitCount_0f7a4 14 = .ok (.iand, 1) := by decide +kernel
theorem dJ6_bitCount_0f7a4_15 : decode cJ6_bitCount_0f7a4 15 = .ok (.iload_n 0, 1) := by decide +kernel
theorem dJ6_bitCount_0f7a4_16 : decode cJ6_bitCount_0f7a4 16 = .ok (.iconst 2, 1) := by decide +kernel
theorem dJ6_bitCount_0f7a4_17 : decode cJ6_bitCount_0f7a4 17 = .ok (.iushr, 1) := by decide +kernel
theorem dJ6_bitCount_0f7a4_18 : decode cJ6_bitCount_0f7a4 18 = .ok (.ldc_w 266, 3) := by decide +kernel
theorem dJ6_bitCount_0f7a4_21 : decode cJ6_bitCount_0f7a4 21 = .ok (.iand, 1) := by decide +kernel
theorem dJ6_bitCount_0f7a4_22 : decode cJ6_bitCount_0f7a4 22 = .ok (.iadd, 1) := by decide +kernel
theorem dJ6_bitCount_0f7a4_23 : decode cJ6_bitCount_0f7a4 23 = .ok (.istore_n 0, 1) := by decide +kernel
theorem dJ6_bitCount_0f7a4_24 : decode cJ6_bitCount_0f7a4 24 = .ok (.iload_n 0, 1) := by decide +kernel
theorem dJ6_bitCount_0f7a4_25 : decode cJ6_bitCount_0f7a4 25 = .ok (.iload_n 0, 1) := by decide +kernel
theorem dJ6_bitCount_0f7a4_26 : decode cJ6_bitCount_0f7a4 26 = .ok (.iconst 4, 1) := by decide +kernel
theorem dJ6_bitCount_0f7a4_27 : decode cJ6_bitCount_0f7a4 27 = .ok (.iushr, 1) := by decide +kernel
theorem dJ6_bitCount_0f7a4_28 : decode cJ6_bitCount_0f7a4 28 = .ok (.iadd, 1) := by decide +kernel
theorem dJ6_bitCount_0f7a4_29 : decode cJ6_bitCount_0f7a4 29 = .ok (.ldc_w 267, 3) := by decide +kernel
theorem dJ6_bitCount_0f7a4_32 : decode cJ6_bitCount_0f7a4 32 = .ok (.iand, 1) := by decide +kernel
theorem dJ6_bitCount_0f7a4_33 : decode cJ6_bitCount_0f7a4 33 = .ok (.istore_n 0, 1) := by decide +kernel
theorem dJ6_bitCount_0f7a4_34 : decode cJ6_bitCount_0f7a4 34 = .ok (.iload_n 0, 1) := by decide +kernel
theorem dJ6_bitCount_0f7a4_35 : decode cJ6_bitCount_0f7a4 35 = .ok (.iload_n 0, 1) := by decide +kernel
theorem dJ6_bitCount_0f7a4_36 : decode cJ6_bitCount_0f7a4 36 = .ok (.bipush 8, 2) := by decide +kernel
theorem dJ6_bitCount_0f7a4_38 : decode cJ6_bitCount_0f7a4 38 = .ok (.iushr, 1) := by decide +kernel
theorem dJ6_bitCount_0f7a4_39 : decode cJ6_bitCount_0f7a4 39 = .ok (.iadd, 1) := by decide +kernel
theorem dJ6_bitCount_0f7a4_40 : decode cJ6_bitCount_0f7a4 40 = .ok (.istore_n 0, 1) := by decide +kernel
theorem dJ6_bitCount_0f7a4_41 : decode cJ6_bitCount_0f7a4 41 = .ok (.iload_n 0, 1) := by decide +kernel
theorem dJ6_bitCount_0f7a4_42 : decode cJ6_bitCount_0f7a4 42 = .ok (.iload_n 0, 1) := by decide +kernel
theorem dJ6_bitCount_0f7a4_43 : decode cJ6_bitCount_0f7a4 43 = .ok (.bipush 16, 2) := by decide +kernel
theorem dJ6_bitCount_0f7a4_45 : decode cJ6_bitCount_0f7a4 45 = .ok (.iushr, 1) := by decide +kernel
theorem dJ6_bitCount_0f7a4_46 : decode cJ6_bitCount_0f7a4 46 = .ok (.iadd, 1) := by decide +kernel
theorem dJ6_bitCount_0f7a4_47 : decode cJ6_bitCount_0f7a4 47 = .ok (.istore_n 0, 1) := by decide +kernel
theorem dJ6_bitCount_0f7a4_48 : decode cJ6_bitCount_0f7a4 48 = .ok (.iload_n 0, 1) := by decide +kernel
theorem dJ6_bitCount_0f7a4_49 : decode cJ6_bitCount_0f7a4 49 = .ok (.bipush 63, 2) := by decide +kernel
theorem dJ6_bitCount_0f7a4_51 : decode cJ6_bitCount_0f7a4 51 = .ok (.iand, 1) := by decide +kernel
theorem dJ6_bitCount_0f7a4_52 : decode cJ6_bitCount_0f7a4 52 = .ok (.ireturn, 1) := by decide +kernel
noncomputable def f_J6_bitCount_0f7a4 (M : ZMem) (x0 : Int32) : Option Int32 := zbnd (x0 - ((zushr x0 (1 : Int32)) &&& (1431655765 : Int32))) (fun x0_9 => zbnd ((x0_9 &&& (858993459 : Int32)) + ((zushr x0_9 (2 : Int32)) &&& (858993459 : Int32))) (fun x0_23 => zbnd ((x0_23 + (zushr x0_23 (4 : Int32))) &&& (252645135 : Int32)) (fun x0_33 => zbnd (x0_33 + (zushr x0_33 (8 : Int32))) (fun x0_40 => zbnd (x0_40 + (zushr x0_40 (16 : Int32))) (fun x0_47 => some (x0_47 &&& (63 : Int32)))))))
set_option maxRecDepth 100000 in
set_option maxHeartbeats 4000000 in
theorem c_J6_bitCount_0f7a4 {ly : List ZEnt} (E : ZEv) (M : ZMem) (x0 : Int32) (K : Int32 → Prop) (hk : zOk (f_J6_bitCount_0f7a4 M x0) K) : zCon ly E yJ6_bitCount_0f7a4 cJ6_bitCount_0f7a4 1 (some .int) 0 [.int x0] M (zRp M K) := by
  refine zcon_of (L0 := [(0, .int x0)]) (by decide) rfl (Nat.le_of_ble_eq_true rfl) (fun G h => ?_)
  have h : zRu ly E G (zRp M K) cJ6_bitCount_0f7a4 RJ6 1 (some .int) 0 := h
  unfold f_J6_bitCount_0f7a4 at hk
  refine zr_iload_n h dJ6_bitCount_0f7a4_0 0 rfl rfl ?_
  refine zr_iload_n h dJ6_bitCount_0f7a4_1 0 rfl rfl ?_
  refine zr_iconst (v := 1) h dJ6_bitCount_0f7a4_2 (by decide) ?_
  refine zr_iushr h dJ6_bitCount_0f7a4_3 ?_
  refine zr_ldcw (v := 1431655765) h dJ6_bitCount_0f7a4_4 (zm_12 _ (List.mem_of_getElem? (i := 20) rfl)) ?_
  refine zr_iand h dJ6_bitCount_0f7a4_7 ?_
  refine zr_isub h dJ6_bitCount_0f7a4_8 ?_
  refine zr_topi (fun x0_9 ex => ?_)
  have hk := zOk_bnd ex hk
  refine zr_istore_n (L' := [(0, .int x0_9)]) h [0] dJ6_bitCount_0f7a4_9 rfl (by decide) rfl ?_
  refine zr_iload_n h dJ6_bitCount_0f7a4_10 0 rfl rfl ?_
  refine zr_ldcw (v := 858993459) h dJ6_bitCount_0f7a4_11 (zm_12 _ (List.mem_of_getElem? (i := 21) rfl)) ?_
  refine zr_iand h dJ6_bitCount_0f7a4_14 ?_
  refine zr_iload_n h dJ6_bitCount_0f7a4_15 0 rfl rfl ?_
  refine zr_iconst (v := 2) h dJ6_bitCount_0f7a4_16 (by decide) ?_
  refine zr_iushr h dJ6_bitCount_0f7a4_17 ?_
  refine zr_ldcw (v := 858993459) h dJ6_bitCount_0f7a4_18 (zm_12 _ (List.mem_of_getElem? (i := 21) rfl)) ?_
  refine zr_iand h dJ6_bitCount_0f7a4_21 ?_
  refine zr_iadd h dJ6_bitCount_0f7a4_22 ?_
  refine zr_topi (fun x0_23 ex => ?_)
  have hk := zOk_bnd ex hk
  refine zr_istore_n (L' := [(0, .int x0_23)]) h [0] dJ6_bitCount_0f7a4_23 rfl (by decide) rfl ?_
  refine zr_iload_n h dJ6_bitCount_0f7a4_24 0 rfl rfl ?_
  refine zr_iload_n h dJ6_bitCount_0f7a4_25 0 rfl rfl ?_
  refine zr_iconst (v := 4) h dJ6_bitCount_0f7a4_26 (by decide) ?_
  refine zr_iushr h dJ6_bitCount_0f7a4_27 ?_
  refine zr_iadd h dJ6_bitCount_0f7a4_28 ?_
  refine zr_ldcw (v := 252645135) h dJ6_bitCount_0f7a4_29 (zm_12 _ (List.mem_of_getElem? (i := 22) rfl)) ?_
  refine zr_iand h dJ6_bitCount_0f7a4_32 ?_
  refine zr_topi (fun x0_33 ex => ?_)
  have hk := zOk_bnd ex hk
  refine zr_istore_n (L' := [(0, .int x0_33)]) h [0] dJ6_bitCount_0f7a4_33 rfl (by decide) rfl ?_
  refine zr_iload_n h dJ6_bitCount_0f7a4_34 0 rfl rfl ?_
  refine zr_iload_n h dJ6_bitCount_0f7a4_35 0 rfl rfl ?_
  refine zr_bipush (v := 8) h dJ6_bitCount_0f7a4_36 (by decide) ?_
  refine zr_iushr h dJ6_bitCount_0f7a4_38 ?_
  refine zr_iadd h dJ6_bitCount_0f7a4_39 ?_
  refine zr_topi (fun x0_40 ex => ?_)
  have hk := zOk_bnd ex hk
  refine zr_istore_n (L' := [(0, .int x0_40)]) h [0] dJ6_bitCount_0f7a4_40 rfl (by decide) rfl ?_
  refine zr_iload_n h dJ6_bitCount_0f7a4_41 0 rfl rfl ?_
  refine zr_iload_n h dJ6_bitCount_0f7a4_42 0 rfl rfl ?_
  refine zr_bipush (v := 16) h dJ6_bitCount_0f7a4_43 (by decide) ?_
  refine zr_iushr h dJ6_bitCount_0f7a4_45 ?_
  refine zr_iadd h dJ6_bitCount_0f7a4_46 ?_
  refine zr_topi (fun x0_47 ex => ?_)
  have hk := zOk_bnd ex hk
  refine zr_istore_n (L' := [(0, .int x0_47)]) h [0] dJ6_bitCount_0f7a4_47 rfl (by decide) rfl ?_
  refine zr_iload_n h dJ6_bitCount_0f7a4_48 0 rfl rfl ?_
  refine zr_bipush (v := 63) h dJ6_bitCount_0f7a4_49 (by decide) ?_
  refine zr_iand h dJ6_bitCount_0f7a4_51 ?_
  have hk := zOk_some hk
  exact zr_iret h dJ6_bitCount_0f7a4_52 ⟨rfl, _, rfl, hk⟩
theorem dJ7_fill_53178_0 : decode cJ7_fill_53178 0 = .ok (.iconst 0, 1) := by decide +kernel
theorem dJ7_fill_53178_1 : decode cJ7_fill_53178 1 = .ok (.istore_n 2, 1) := by decide +kernel
theorem dJ7_fill_53178_2 : decode cJ7_fill_53178 2 = .ok (.aload_n 0, 1) := by decide +kernel
theorem dJ7_fill_53178_3 : decode cJ7_fill_53178 3 = .ok (.arraylength, 1) := by decide +kernel
theorem dJ7_fill_53178_4 : decode cJ7_fill_53178 4 = .ok (.istore_n 3, 1) := by decide +kernel
theorem dJ7_fill_53178_5 : decode cJ7_fill_53178 5 = .ok (.iload_n 2, 1) := by decide +kernel
theorem dJ7_fill_53178_6 : decode cJ7_fill_53178 6 = .ok (.iload_n 3, 1) := by decide +kernel
theorem dJ7_fill_53178_7 : decode cJ7_fill_53178 7 = .ok (.if_icmp .ge 13, 3) := by decide +kernel
theorem dJ7_fill_53178_10 : decode cJ7_fill_53178 10 = .ok (.aload_n 0, 1) := by decide +kernel
theorem dJ7_fill_53178_11 : decode cJ7_fill_53178 11 = .ok (.iload_n 2, 1) := by decide +kernel
theorem dJ7_fill_53178_12 : decode cJ7_fill_53178 12 = .ok (.iload_n 1, 1) := by decide +kernel
theorem dJ7_fill_53178_13 : decode cJ7_fill_53178 13 = .ok (.iastore, 1) := by decide +kernel
theorem dJ7_fill_53178_14 : decode cJ7_fill_53178 14 = .ok (.iinc 2 1, 3) := by decide +kernel
theorem dJ7_fill_53178_17 : decode cJ7_fill_53178 17 = .ok (.goto (-12), 3) := by decide +kernel
theorem dJ7_fill_53178_20 : decode cJ7_fill_53178 20 = .ok (.return_, 1) := by decide +kernel
noncomputable def f_J7_fill_53178_L5 (q0 : Nat) (n0 : Nat) (x1 : Int32) (x3 : Int32) (s : (ZMem × Int32)) : Option ((ZMem × Int32) ⊕ (ZMem)) := if x3 ≤ s.2 then some (.inr s.1) else zchk (zin s.2 n0) (zbnd (zstI s.1 q0 (zix s.2) x1) (fun M_13 => zbnd (s.2 + 1) (fun x2_14 => some (.inl (M_13, x2_14)))))
set_option maxRecDepth 100000 in
set_option maxHeartbeats 4000000 in
theorem w_J7_fill_53178_L5 {ly : List ZEnt} {E : ZEv} {G : ZG} {K : ZMem → Prop} (h : zRu ly E G (zRv K) cJ7_fill_53178 RJ7 4 none 0) (q0 : Nat) (n0 : Nat) (hq0 : ly[q0]? = some (.inl (0, n0))) (x1 : Int32) (x3 : Int32) (s : (ZMem × Int32)) (hk : zOk (zloop (f_J7_fill_53178_L5 q0 n0 x1 x3) s) (fun e => G e 20 [] [])) : G s.1 5 [(0, zrf E q0), (1, .int x1), (2, .int s.2), (3, .int x3)] [] := by
  refine zloop_walk (P := fun s => G s.1 5 [(0, zrf E q0), (1, .int x1), (2, .int s.2), (3, .int x3)] []) hk (fun s hk => ?_)
  unfold f_J7_fill_53178_L5 at hk
  refine zr_iload_n h dJ7_fill_53178_5 2 rfl rfl ?_
  refine zr_iload_n h dJ7_fill_53178_6 3 rfl rfl ?_
  refine zr_icmp_ge (tgt := 20) h dJ7_fill_53178_7 (by decide) (fun c => ?_) (fun c => ?_)
  · have hk := zOk_t c hk
    have hk := zOk_some hk
    exact zr_weak h [] rfl hk
  · have hk := zOk_f c hk
    refine zr_aload_n h dJ7_fill_53178_10 0 rfl rfl ?_
    refine zr_iload_n h dJ7_fill_53178_11 2 rfl rfl ?_
    refine zr_iload_n h dJ7_fill_53178_12 1 rfl rfl ?_
    have hb := zOk_chk hk
    have hk := hb.2
    refine zr_iast h hq0 hb.1 dJ7_fill_53178_13 ?_
    refine zr_mem (fun M_13 eM => ?_)
    have hk := zOk_bnd eM hk
    obtain ⟨x2_14, ex⟩ : ∃ y : Int32, y = s.2 + 1 := ⟨_, rfl⟩
    have hk := zOk_bnd ex hk
    refine zr_iinc (v := x2_14) (L' := [(0, zrf E q0), (1, .int x1), (2, .int x2_14), (3, .int x3)]) h 2 [1, 2, 0, 3] dJ7_fill_53178_14 rfl (by rw [ex]; rfl) (by decide) rfl ?_
    refine zr_goto (tgt := 5) h dJ7_fill_53178_17 (by decide) ?_
    have hk := zOk_some hk
    exact zr_weak h [0, 1, 2, 3] rfl hk
noncomputable def f_J7_fill_53178 (q0 : Nat) (n0 : Nat) (M : ZMem) (x1 : Int32) : Option ZMem := zbnd (Int32.ofNat n0) (fun x3_4 => zbind (zloop (f_J7_fill_53178_L5 q0 n0 x1 x3_4) (M, (0 : Int32))) (fun e5 => some e5))
set_option maxRecDepth 100000 in
set_option maxHeartbeats 4000000 in
theorem c_J7_fill_53178 {ly : List ZEnt} (E : ZEv) (q0 : Nat) (n0 : Nat) (hq0 : ly[q0]? = some (.inl (0, n0))) (M : ZMem) (x1 : Int32) (K : ZMem → Prop) (hk : zOk (f_J7_fill_53178 q0 n0 M x1) K) : zCon ly E yJ7_fill_53178 cJ7_fill_53178 4 none 0 [zrf E q0, .int x1] M (zRv K) := by
  refine zcon_of (L0 := [(0, zrf E q0), (1, .int x1)]) (by decide) rfl (Nat.le_of_ble_eq_true rfl) (fun G h => ?_)
  have h : zRu ly E G (zRv K) cJ7_fill_53178 RJ7 4 none 0 := h
  unfold f_J7_fill_53178 at hk
  refine zr_iconst (v := 0) h dJ7_fill_53178_0 (by decide) ?_
  refine zr_istore_n (L' := [(0, zrf E q0), (1, .int x1), (2, .int (0 : Int32))]) h [1, 2, 0] dJ7_fill_53178_1 rfl (by decide) rfl ?_
  refine zr_aload_n h dJ7_fill_53178_2 0 rfl rfl ?_
  refine zr_alen h (by decide) hq0 dJ7_fill_53178_3 ?_
  refine zr_topi (fun x3_4 ex => ?_)
  have hk := zOk_bnd ex hk
  refine zr_istore_n (L' := [(0, zrf E q0), (1, .int x1), (2, .int (0 : Int32)), (3, .int x3_4)]) h [1, 2, 3, 0] dJ7_fill_53178_4 rfl (by decide) rfl ?_
  refine w_J7_fill_53178_L5 h q0 n0 hq0 x1 x3_4 (M, (0 : Int32)) (zOk_mono (zOk_bind hk) (fun e5 hk => ?_))
  have hk := zOk_some hk
  exact zr_vret h dJ7_fill_53178_20 ⟨rfl, hk⟩
theorem dJ7_fill_d0a16_0 : decode cJ7_fill_d0a16 0 = .ok (.iconst 0, 1) := by decide +kernel
theorem dJ7_fill_d0a16_1 : decode cJ7_fill_d0a16 1 = .ok (.istore_n 3, 1) := by decide +kernel
theorem dJ7_fill_d0a16_2 : decode cJ7_fill_d0a16 2 = .ok (.aload_n 0, 1) := by decide +kernel
theorem dJ7_fill_d0a16_3 : decode cJ7_fill_d0a16 3 = .ok (.arraylength, 1) := by decide +kernel
theorem dJ7_fill_d0a16_4 : decode cJ7_fill_d0a16 4 = .ok (.istore 4, 2) := by decide +kernel
theorem dJ7_fill_d0a16_6 : decode cJ7_fill_d0a16 6 = .ok (.iload_n 3, 1) := by decide +kernel
theorem dJ7_fill_d0a16_7 : decode cJ7_fill_d0a16 7 = .ok (.iload 4, 2) := by decide +kernel
theorem dJ7_fill_d0a16_9 : decode cJ7_fill_d0a16 9 = .ok (.if_icmp .ge 13, 3) := by decide +kernel
theorem dJ7_fill_d0a16_12 : decode cJ7_fill_d0a16 12 = .ok (.aload_n 0, 1) := by decide +kernel
theorem dJ7_fill_d0a16_13 : decode cJ7_fill_d0a16 13 = .ok (.iload_n 3, 1) := by decide +kernel
theorem dJ7_fill_d0a16_14 : decode cJ7_fill_d0a16 14 = .ok (.lload_n 1, 1) := by decide +kernel
theorem dJ7_fill_d0a16_15 : decode cJ7_fill_d0a16 15 = .ok (.lastore, 1) := by decide +kernel
theorem dJ7_fill_d0a16_16 : decode cJ7_fill_d0a16 16 = .ok (.iinc 3 1, 3) := by decide +kernel
theorem dJ7_fill_d0a16_19 : decode cJ7_fill_d0a16 19 = .ok (.goto (-13), 3) := by decide +kernel
theorem dJ7_fill_d0a16_22 : decode cJ7_fill_d0a16 22 = .ok (.return_, 1) := by decide +kernel
noncomputable def f_J7_fill_d0a16_L6 (q0 : Nat) (n0 : Nat) (x1 : Int64) (x4 : Int32) (s : (ZMem × Int32)) : Option ((ZMem × Int32) ⊕ (ZMem)) := if x4 ≤ s.2 then some (.inr s.1) else zchk (zin s.2 n0) (zbnd (zstL s.1 q0 (zix s.2) x1) (fun M_15 => zbnd (s.2 + 1) (fun x3_16 => some (.inl (M_15, x3_16)))))
set_option maxRecDepth 100000 in
set_option maxHeartbeats 4000000 in
theorem w_J7_fill_d0a16_L6 {ly : List ZEnt} {E : ZEv} {G : ZG} {K : ZMem → Prop} (h : zRu ly E G (zRv K) cJ7_fill_d0a16 RJ7 5 none 0) (q0 : Nat) (n0 : Nat) (hq0 : ly[q0]? = some (.inl (3, n0))) (x1 : Int64) (x4 : Int32) (s : (ZMem × Int32)) (hk : zOk (zloop (f_J7_fill_d0a16_L6 q0 n0 x1 x4) s) (fun e => G e 22 [] [])) : G s.1 6 [(0, zrf E q0), (1, .long x1), (3, .int s.2), (4, .int x4)] [] := by
  refine zloop_walk (P := fun s => G s.1 6 [(0, zrf E q0), (1, .long x1), (3, .int s.2), (4, .int x4)] []) hk (fun s hk => ?_)
  unfold f_J7_fill_d0a16_L6 at hk
  refine zr_iload_n h dJ7_fill_d0a16_6 2 rfl rfl ?_
  refine zr_iload h dJ7_fill_d0a16_7 3 rfl ?_
  refine zr_icmp_ge (tgt := 22) h dJ7_fill_d0a16_9 (by decide) (fun c => ?_) (fun c => ?_)
  · have hk := zOk_t c hk
    have hk := zOk_some hk
    exact zr_weak h [] rfl hk
  · have hk := zOk_f c hk
    refine zr_aload_n h dJ7_fill_d0a16_12 0 rfl rfl ?_
    refine zr_iload_n h dJ7_fill_d0a16_13 2 rfl rfl ?_
    refine zr_lload_n h dJ7_fill_d0a16_14 1 rfl rfl ?_
    have hb := zOk_chk hk
    have hk := hb.2
    refine zr_last h hq0 hb.1 dJ7_fill_d0a16_15 ?_
    refine zr_mem (fun M_15 eM => ?_)
    have hk := zOk_bnd eM hk
    obtain ⟨x3_16, ex⟩ : ∃ y : Int32, y = s.2 + 1 := ⟨_, rfl⟩
    have hk := zOk_bnd ex hk
    refine zr_iinc (v := x3_16) (L' := [(0, zrf E q0), (1, .long x1), (3, .int x3_16), (4, .int x4)]) h 2 [1, 2, 0, 3] dJ7_fill_d0a16_16 rfl (by rw [ex]; rfl) (by decide) rfl ?_
    refine zr_goto (tgt := 6) h dJ7_fill_d0a16_19 (by decide) ?_
    have hk := zOk_some hk
    exact zr_weak h [0, 1, 2, 3] rfl hk
noncomputable def f_J7_fill_d0a16 (q0 : Nat) (n0 : Nat) (M : ZMem) (x1 : Int64) : Option ZMem := zbnd (Int32.ofNat n0) (fun x4_4 => zbind (zloop (f_J7_fill_d0a16_L6 q0 n0 x1 x4_4) (M, (0 : Int32))) (fun e6 => some e6))
set_option maxRecDepth 100000 in
set_option maxHeartbeats 4000000 in
theorem c_J7_fill_d0a16 {ly : List ZEnt} (E : ZEv) (q0 : Nat) (n0 : Nat) (hq0 : ly[q0]? = some (.inl (3, n0))) (M : ZMem) (x1 : Int64) (K : ZMem → Prop) (hk : zOk (f_J7_fill_d0a16 q0 n0 M x1) K) : zCon ly E yJ7_fill_d0a16 cJ7_fill_d0a16 5 none 0 [zrf E q0, .long x1] M (zRv K) := by
  refine zcon_of (L0 := [(0, zrf E q0), (1, .long x1)]) (by decide) rfl (Nat.le_of_ble_eq_true rfl) (fun G h => ?_)
  have h : zRu ly E G (zRv K) cJ7_fill_d0a16 RJ7 5 none 0 := h
  unfold f_J7_fill_d0a16 at hk
  refine zr_iconst (v := 0) h dJ7_fill_d0a16_0 (by decide) ?_
  refine zr_istore_n (L' := [(0, zrf E q0), (1, .long x1), (3, .int (0 : Int32))]) h [1, 2, 0] dJ7_fill_d0a16_1 rfl (by decide) rfl ?_
  refine zr_aload_n h dJ7_fill_d0a16_2 0 rfl rfl ?_
  refine zr_alen h (by decide) hq0 dJ7_fill_d0a16_3 ?_
  refine zr_topi (fun x4_4 ex => ?_)
  have hk := zOk_bnd ex hk
  refine zr_istore (L' := [(0, zrf E q0), (1, .long x1), (3, .int (0 : Int32)), (4, .int x4_4)]) h [1, 2, 3, 0] dJ7_fill_d0a16_4 (by decide) rfl ?_
  refine w_J7_fill_d0a16_L6 h q0 n0 hq0 x1 x4_4 (M, (0 : Int32)) (zOk_mono (zOk_bind hk) (fun e6 hk => ?_))
  have hk := zOk_some hk
  exact zr_vret h dJ7_fill_d0a16_22 ⟨rfl, hk⟩
theorem dJ6_numberOfTrailingZeros_0f7a4_0 : decode cJ6_numberOfTrailingZeros_0f7a4 0 = .ok (.iload_n 0, 1) := by decide +kernel
theorem dJ6_numberOfTrailingZeros_0f7a4_1 : decode cJ6_numberOfTrailingZeros_0f7a4 1 = .ok (.iconst (-1), 1) := by decide +kernel
theorem dJ6_numberOfTrailingZeros_0f7a4_2 : decode cJ6_numberOfTrailingZeros_0f7a4 2 = .ok (.ixor, 1) := by decide +kernel
theorem dJ6_numberOfTrailingZeros_0f7a4_3 : decode cJ6_numberOfTrailingZeros_0f7a4 3 = .ok (.iload_n 0, 1) := by decide +kernel
theorem dJ6_numberOfTrailingZeros_0f7a4_4 : decode cJ6_numberOfTrailingZeros_0f7a4 4 = .ok (.iconst 1, 1) := by decide +kernel
theorem dJ6_numberOfTrailingZeros_0f7a4_5 : decode cJ6_numberOfTrailingZeros_0f7a4 5 = .ok (.isub, 1) := by decide +kernel
theorem dJ6_numberOfTrailingZeros_0f7a4_6 : decode cJ6_numberOfTrailingZeros_0f7a4 6 = .ok (.iand, 1) := by decide +kernel
theorem dJ6_numberOfTrailingZeros_0f7a4_7 : decode cJ6_numberOfTrailingZeros_0f7a4 7 = .ok (.istore_n 0, 1) := by decide +kernel
theorem dJ6_numberOfTrailingZeros_0f7a4_8 : decode cJ6_numberOfTrailingZeros_0f7a4 8 = .ok (.iload_n 0, 1) := by decide +kernel
theorem dJ6_numberOfTrailingZeros_0f7a4_9 : decode cJ6_numberOfTrailingZeros_0f7a4 9 = .ok (.ifCond .gt 8, 3) := by decide +kernel
theorem dJ6_numberOfTrailingZeros_0f7a4_12 : decode cJ6_numberOfTrailingZeros_0f7a4 12 = .ok (.iload_n 0, 1) := by decide +kernel
theorem dJ6_numberOfTrailingZeros_0f7a4_13 : decode cJ6_numberOfTrailingZeros_0f7a4 13 = .ok (.bipush 32, 2) := by decide +kernel
theorem dJ6_numberOfTrailingZeros_0f7a4_15 : decode cJ6_numberOfTrailingZeros_0f7a4 15 = .ok (.iand, 1) := by decide +kernel
theorem dJ6_numberOfTrailingZeros_0f7a4_16 : decode cJ6_numberOfTrailingZeros_0f7a4 16 = .ok (.ireturn, 1) := by decide +kernel
theorem dJ6_numberOfTrailingZeros_0f7a4_17 : decode cJ6_numberOfTrailingZeros_0f7a4 17 = .ok (.iconst 1, 1) := by decide +kernel
theorem dJ6_numberOfTrailingZeros_0f7a4_18 : decode cJ6_numberOfTrailingZeros_0f7a4 18 = .ok (.istore_n 1, 1) := by decide +kernel
theorem dJ6_numberOfTrailingZeros_0f7a4_19 : decode cJ6_numberOfTrailingZeros_0f7a4 19 = .ok (.iload_n 0, 1) := by decide +kernel
theorem dJ6_numberOfTrailingZeros_0f7a4_20 : decode cJ6_numberOfTrailingZeros_0f7a4 20 = .ok (.ldc_w 264, 3) := by decide +kernel
theorem dJ6_numberOfTrailingZeros_0f7a4_23 : decode cJ6_numberOfTrailingZeros_0f7a4 23 = .ok (.if_icmp .le 11, 3) := by decide +kernel
theorem dJ6_numberOfTrailingZeros_0f7a4_26 : decode cJ6_numberOfTrailingZeros_0f7a4 26 = .ok (.iinc 1 16, 3) := by decide +kernel
theorem dJ6_numberOfTrailingZeros_0f7a4_29 : decode cJ6_numberOfTrailingZeros_0f7a4 29 = .ok (.iload_n 0, 1) := by decide +kernel
theorem dJ6_numberOfTrailingZeros_0f7a4_30 : decode cJ6_numberOfTrailingZeros_0f7a4 30 = .ok (.bipush 16, 2) := by decide +kernel
theorem dJ6_numberOfTrailingZeros_0f7a4_32 : decode cJ6_numberOfTrailingZeros_0f7a4 32 = .ok (.iushr, 1) := by decide +kernel
theorem dJ6_numberOfTrailingZeros_0f7a4_33 : decode cJ6_numberOfTrailingZeros_0f7a4 33 = .ok (.istore_n 0, 1) := by decide +kernel
theorem dJ6_numberOfTrailingZeros_0f7a4_34 : decode cJ6_numberOfTrailingZeros_0f7a4 34 = .ok (.iload_n 0, 1) := by decide +kernel
theorem dJ6_numberOfTrailingZeros_0f7a4_35 : decode cJ6_numberOfTrailingZeros_0f7a4 35 = .ok (.sipush 256, 3) := by decide +kernel
theorem dJ6_numberOfTrailingZeros_0f7a4_38 : decode cJ6_numberOfTrailingZeros_0f7a4 38 = .ok (.if_icmp .le 11, 3) := by decide +kernel
theorem dJ6_numberOfTrailingZeros_0f7a4_41 : decode cJ6_numberOfTrailingZeros_0f7a4 41 = .ok (.iinc 1 8, 3) := by decide +kernel
theorem dJ6_numberOfTrailingZeros_0f7a4_44 : decode cJ6_numberOfTrailingZeros_0f7a4 44 = .ok (.iload_n 0, 1) := by decide +kernel
theorem dJ6_numberOfTrailingZeros_0f7a4_45 : decode cJ6_numberOfTrailingZeros_0f7a4 45 = .ok (.bipush 8, 2) := by decide +kernel
theorem dJ6_numberOfTrailingZeros_0f7a4_47 : decode cJ6_numberOfTrailingZeros_0f7a4 47 = .ok (.iushr, 1) := by decide +kernel
theorem dJ6_numberOfTrailingZeros_0f7a4_48 : decode cJ6_numberOfTrailingZeros_0f7a4 48 = .ok (.istore_n 0, 1) := by decide +kernel
theorem dJ6_numberOfTrailingZeros_0f7a4_49 : decode cJ6_numberOfTrailingZeros_0f7a4 49 = .ok (.iload_n 0, 1) := by decide +kernel
theorem dJ6_numberOfTrailingZeros_0f7a4_50 : decode cJ6_numberOfTrailingZeros_0f7a4 50 = .ok (.bipush 16, 2) := by decide +kernel
theorem dJ6_numberOfTrailingZeros_0f7a4_52 : decode cJ6_numberOfTrailingZeros_0f7a4 52 = .ok (.if_icmp .le 10, 3) := by decide +kernel
theorem dJ6_numberOfTrailingZeros_0f7a4_55 : decode cJ6_numberOfTrailingZeros_0f7a4 55 = .ok (.iinc 1 4, 3) := by decide +kernel
theorem dJ6_numberOfTrailingZeros_0f7a4_58 : decode cJ6_numberOfTrailingZeros_0f7a4 58 = .ok (.iload_n 0, 1) := by decide +kernel
theorem dJ6_numberOfTrailingZeros_0f7a4_59 : decode cJ6_numberOfTrailingZeros_0f7a4 59 = .ok (.iconst 4, 1) := by decide +kernel
theorem dJ6_numberOfTrailingZeros_0f7a4_60 : decode cJ6_numberOfTrailingZeros_0f7a4 60 = .ok (.iushr, 1) := by decide +kernel
theorem dJ6_numberOfTrailingZeros_0f7a4_61 : decode cJ6_numberOfTrailingZeros_0f7a4 61 = .ok (.istore_n 0, 1) := by decide +kernel
theorem dJ6_numberOfTrailingZeros_0f7a4_62 : decode cJ6_numberOfTrailingZeros_0f7a4 62 = .ok (.iload_n 0, 1) := by decide +kernel
theorem dJ6_numberOfTrailingZeros_0f7a4_63 : decode cJ6_numberOfTrailingZeros_0f7a4 63 = .ok (.iconst 4, 1) := by decide +kernel
theorem dJ6_numberOfTrailingZeros_0f7a4_64 : decode cJ6_numberOfTrailingZeros_0f7a4 64 = .ok (.if_icmp .le 10, 3) := by decide +kernel
theorem dJ6_numberOfTrailingZeros_0f7a4_67 : decode cJ6_numberOfTrailingZeros_0f7a4 67 = .ok (.iinc 1 2, 3) := by decide +kernel
theorem dJ6_numberOfTrailingZeros_0f7a4_70 : decode cJ6_numberOfTrailingZeros_0f7a4 70 = .ok (.iload_n 0, 1) := by decide +kernel
theorem dJ6_numberOfTrailingZeros_0f7a4_71 : decode cJ6_numberOfTrailingZeros_0f7a4 71 = .ok (.iconst 2, 1) := by decide +kernel
theorem dJ6_numberOfTrailingZeros_0f7a4_72 : decode cJ6_numberOfTrailingZeros_0f7a4 72 = .ok (.iushr, 1) := by decide +kernel
theorem dJ6_numberOfTrailingZeros_0f7a4_73 : decode cJ6_numberOfTrailingZeros_0f7a4 73 = .ok (.istore_n 0, 1) := by decide +kernel
theorem dJ6_numberOfTrailingZeros_0f7a4_74 : decode cJ6_numberOfTrailingZeros_0f7a4 74 = .ok (.iload_n 1, 1) := by decide +kernel
theorem dJ6_numberOfTrailingZeros_0f7a4_75 : decode cJ6_numberOfTrailingZeros_0f7a4 75 = .ok (.iload_n 0, 1) := by decide +kernel
theorem dJ6_numberOfTrailingZeros_0f7a4_76 : decode cJ6_numberOfTrailingZeros_0f7a4 76 = .ok (.iconst 1, 1) := by decide +kernel
theorem dJ6_numberOfTrailingZeros_0f7a4_77 : decode cJ6_numberOfTrailingZeros_0f7a4 77 = .ok (.iushr, 1) := by decide +kernel
theorem dJ6_numberOfTrailingZeros_0f7a4_78 : decode cJ6_numberOfTrailingZeros_0f7a4 78 = .ok (.iadd, 1) := by decide +kernel
theorem dJ6_numberOfTrailingZeros_0f7a4_79 : decode cJ6_numberOfTrailingZeros_0f7a4 79 = .ok (.ireturn, 1) := by decide +kernel
noncomputable def f_J6_numberOfTrailingZeros_0f7a4_62 (M : ZMem) (x0 : Int32) (x1 : Int32) : Option Int32 := if x0 ≤ (4 : Int32) then some (x1 + (zushr x0 (1 : Int32))) else zbnd (x1 + 2) (fun x1_67 => zbnd (zushr x0 (2 : Int32)) (fun x0_73 => some (x1_67 + (zushr x0_73 (1 : Int32)))))
set_option maxRecDepth 100000 in
set_option maxHeartbeats 4000000 in
theorem w_J6_numberOfTrailingZeros_0f7a4_62 {ly : List ZEnt} {E : ZEv} {G : ZG} {K : Int32 → Prop} (M : ZMem) (h : zRu ly E G (zRp M K) cJ6_numberOfTrailingZeros_0f7a4 RJ6 2 (some .int) 0) (x0 : Int32) (x1 : Int32) (hk : zOk (f_J6_numberOfTrailingZeros_0f7a4_62 M x0 x1) K) : G M 62 [(0, .int x0), (1, .int x1)] [] := by
  unfold f_J6_numberOfTrailingZeros_0f7a4_62 at hk
  refine zr_iload_n h dJ6_numberOfTrailingZeros_0f7a4_62 0 rfl rfl ?_
  refine zr_iconst (v := 4) h dJ6_numberOfTrailingZeros_0f7a4_63 (by decide) ?_
  refine zr_icmp_le (tgt := 74) h dJ6_numberOfTrailingZeros_0f7a4_64 (by decide) (fun c => ?_) (fun c => ?_)
  · have hk := zOk_t c hk
    refine zr_iload_n h dJ6_numberOfTrailingZeros_0f7a4_74 1 rfl rfl ?_
    refine zr_iload_n h dJ6_numberOfTrailingZeros_0f7a4_75 0 rfl rfl ?_
    refine zr_iconst (v := 1) h dJ6_numberOfTrailingZeros_0f7a4_76 (by decide) ?_
    refine zr_iushr h dJ6_numberOfTrailingZeros_0f7a4_77 ?_
    refine zr_iadd h dJ6_numberOfTrailingZeros_0f7a4_78 ?_
    have hk := zOk_some hk
    exact zr_iret h dJ6_numberOfTrailingZeros_0f7a4_79 ⟨rfl, _, rfl, hk⟩
  · have hk := zOk_f c hk
    obtain ⟨x1_67, ex⟩ : ∃ y : Int32, y = x1 + 2 := ⟨_, rfl⟩
    have hk := zOk_bnd ex hk
    refine zr_iinc (v := x1_67) (L' := [(0, .int x0), (1, .int x1_67)]) h 1 [1, 0] dJ6_numberOfTrailingZeros_0f7a4_67 rfl (by rw [ex]; rfl) (by decide) rfl ?_
    refine zr_iload_n h dJ6_numberOfTrailingZeros_0f7a4_70 0 rfl rfl ?_
    refine zr_iconst (v := 2) h dJ6_numberOfTrailingZeros_0f7a4_71 (by decide) ?_
    refine zr_iushr h dJ6_numberOfTrailingZeros_0f7a4_72 ?_
    refine zr_topi (fun x0_73 ex => ?_)
    have hk := zOk_bnd ex hk
    refine zr_istore_n (L' := [(0, .int x0_73), (1, .int x1_67)]) h [0, 1] dJ6_numberOfTrailingZeros_0f7a4_73 rfl (by decide) rfl ?_
    refine zr_iload_n h dJ6_numberOfTrailingZeros_0f7a4_74 1 rfl rfl ?_
    refine zr_iload_n h dJ6_numberOfTrailingZeros_0f7a4_75 0 rfl rfl ?_
    refine zr_iconst (v := 1) h dJ6_numberOfTrailingZeros_0f7a4_76 (by decide) ?_
    refine zr_iushr h dJ6_numberOfTrailingZeros_0f7a4_77 ?_
    refine zr_iadd h dJ6_numberOfTrailingZeros_0f7a4_78 ?_
    have hk := zOk_some hk
    exact zr_iret h dJ6_numberOfTrailingZeros_0f7a4_79 ⟨rfl, _, rfl, hk⟩
noncomputable def f_J6_numberOfTrailingZeros_0f7a4_49 (M : ZMem) (x0 : Int32) (x1 : Int32) : Option Int32 := if x0 ≤ (16 : Int32) then f_J6_numberOfTrailingZeros_0f7a4_62 M x0 x1 else zbnd (x1 + 4) (fun x1_55 => zbnd (zushr x0 (4 : Int32)) (fun x0_61 => f_J6_numberOfTrailingZeros_0f7a4_62 M x0_61 x1_55))
set_option maxRecDepth 100000 in
set_option maxHeartbeats 4000000 in
theorem w_J6_numberOfTrailingZeros_0f7a4_49 {ly : List ZEnt} {E : ZEv} {G : ZG} {K : Int32 → Prop} (M : ZMem) (h : zRu ly E G (zRp M K) cJ6_numberOfTrailingZeros_0f7a4 RJ6 2 (some .int) 0) (x0 : Int32) (x1 : Int32) (hk : zOk (f_J6_numberOfTrailingZeros_0f7a4_49 M x0 x1) K) : G M 49 [(0, .int x0), (1, .int x1)] [] := by
  unfold f_J6_numberOfTrailingZeros_0f7a4_49 at hk
  refine zr_iload_n h dJ6_numberOfTrailingZeros_0f7a4_49 0 rfl rfl ?_
  refine zr_bipush (v := 16) h dJ6_numberOfTrailingZeros_0f7a4_50 (by decide) ?_
  refine zr_icmp_le (tgt := 62) h dJ6_numberOfTrailingZeros_0f7a4_52 (by decide) (fun c => ?_) (fun c => ?_)
  · have hk := zOk_t c hk
    exact w_J6_numberOfTrailingZeros_0f7a4_62 M h x0 x1 hk
  · have hk := zOk_f c hk
    obtain ⟨x1_55, ex⟩ : ∃ y : Int32, y = x1 + 4 := ⟨_, rfl⟩
    have hk := zOk_bnd ex hk
    refine zr_iinc (v := x1_55) (L' := [(0, .int x0), (1, .int x1_55)]) h 1 [1, 0] dJ6_numberOfTrailingZeros_0f7a4_55 rfl (by rw [ex]; rfl) (by decide) rfl ?_
    refine zr_iload_n h dJ6_numberOfTrailingZeros_0f7a4_58 0 rfl rfl ?_
    refine zr_iconst (v := 4) h dJ6_numberOfTrailingZeros_0f7a4_59 (by decide) ?_
    refine zr_iushr h dJ6_numberOfTrailingZeros_0f7a4_60 ?_
    refine zr_topi (fun x0_61 ex => ?_)
    have hk := zOk_bnd ex hk
    refine zr_istore_n (L' := [(0, .int x0_61), (1, .int x1_55)]) h [0, 1] dJ6_numberOfTrailingZeros_0f7a4_61 rfl (by decide) rfl ?_
    exact w_J6_numberOfTrailingZeros_0f7a4_62 M h x0_61 x1_55 hk
noncomputable def f_J6_numberOfTrailingZeros_0f7a4_34 (M : ZMem) (x0 : Int32) (x1 : Int32) : Option Int32 := if x0 ≤ (256 : Int32) then f_J6_numberOfTrailingZeros_0f7a4_49 M x0 x1 else zbnd (x1 + 8) (fun x1_41 => zbnd (zushr x0 (8 : Int32)) (fun x0_48 => f_J6_numberOfTrailingZeros_0f7a4_49 M x0_48 x1_41))
set_option maxRecDepth 100000 in
set_option maxHeartbeats 4000000 in
theorem w_J6_numberOfTrailingZeros_0f7a4_34 {ly : List ZEnt} {E : ZEv} {G : ZG} {K : Int32 → Prop} (M : ZMem) (h : zRu ly E G (zRp M K) cJ6_numberOfTrailingZeros_0f7a4 RJ6 2 (some .int) 0) (x0 : Int32) (x1 : Int32) (hk : zOk (f_J6_numberOfTrailingZeros_0f7a4_34 M x0 x1) K) : G M 34 [(0, .int x0), (1, .int x1)] [] := by
  unfold f_J6_numberOfTrailingZeros_0f7a4_34 at hk
  refine zr_iload_n h dJ6_numberOfTrailingZeros_0f7a4_34 0 rfl rfl ?_
  refine zr_sipush (v := 256) h dJ6_numberOfTrailingZeros_0f7a4_35 (by decide) ?_
  refine zr_icmp_le (tgt := 49) h dJ6_numberOfTrailingZeros_0f7a4_38 (by decide) (fun c => ?_) (fun c => ?_)
  · have hk := zOk_t c hk
    exact w_J6_numberOfTrailingZeros_0f7a4_49 M h x0 x1 hk
  · have hk := zOk_f c hk
    obtain ⟨x1_41, ex⟩ : ∃ y : Int32, y = x1 + 8 := ⟨_, rfl⟩
    have hk := zOk_bnd ex hk
    refine zr_iinc (v := x1_41) (L' := [(0, .int x0), (1, .int x1_41)]) h 1 [1, 0] dJ6_numberOfTrailingZeros_0f7a4_41 rfl (by rw [ex]; rfl) (by decide) rfl ?_
    refine zr_iload_n h dJ6_numberOfTrailingZeros_0f7a4_44 0 rfl rfl ?_
    refine zr_bipush (v := 8) h dJ6_numberOfTrailingZeros_0f7a4_45 (by decide) ?_
    refine zr_iushr h dJ6_numberOfTrailingZeros_0f7a4_47 ?_
    refine zr_topi (fun x0_48 ex => ?_)
    have hk := zOk_bnd ex hk
    refine zr_istore_n (L' := [(0, .int x0_48), (1, .int x1_41)]) h [0, 1] dJ6_numberOfTrailingZeros_0f7a4_48 rfl (by decide) rfl ?_
    exact w_J6_numberOfTrailingZeros_0f7a4_49 M h x0_48 x1_41 hk
noncomputable def f_J6_numberOfTrailingZeros_0f7a4 (M : ZMem) (x0 : Int32) : Option Int32 := zbnd ((x0 ^^^ (-1 : Int32)) &&& (x0 - (1 : Int32))) (fun x0_7 => if 0 < x0_7 then if x0_7 ≤ (65536 : Int32) then f_J6_numberOfTrailingZeros_0f7a4_34 M x0_7 (1 : Int32) else zbnd ((1 : Int32) + 16) (fun x1_26 => zbnd (zushr x0_7 (16 : Int32)) (fun x0_33 => f_J6_numberOfTrailingZeros_0f7a4_34 M x0_33 x1_26)) else some (x0_7 &&& (32 : Int32)))
set_option maxRecDepth 100000 in
set_option maxHeartbeats 4000000 in
theorem c_J6_numberOfTrailingZeros_0f7a4 {ly : List ZEnt} (E : ZEv) (M : ZMem) (x0 : Int32) (K : Int32 → Prop) (hk : zOk (f_J6_numberOfTrailingZeros_0f7a4 M x0) K) : zCon ly E yJ6_numberOfTrailingZeros_0f7a4 cJ6_numberOfTrailingZeros_0f7a4 2 (some .int) 0 [.int x0] M (zRp M K) := by
  refine zcon_of (L0 := [(0, .int x0)]) (by decide) rfl (Nat.le_of_ble_eq_true rfl) (fun G h => ?_)
  have h : zRu ly E G (zRp M K) cJ6_numberOfTrailingZeros_0f7a4 RJ6 2 (some .int) 0 := h
  unfold f_J6_numberOfTrailingZeros_0f7a4 at hk
  refine zr_iload_n h dJ6_numberOfTrailingZeros_0f7a4_0 0 rfl rfl ?_
  refine zr_iconst (v := -1) h dJ6_numberOfTrailingZeros_0f7a4_1 (by decide) ?_
  refine zr_ixor h dJ6_numberOfTrailingZeros_0f7a4_2 ?_
  refine zr_iload_n h dJ6_numberOfTrailingZeros_0f7a4_3 0 rfl rfl ?_
  refine zr_iconst (v := 1) h dJ6_numberOfTrailingZeros_0f7a4_4 (by decide) ?_
  refine zr_isub h dJ6_numberOfTrailingZeros_0f7a4_5 ?_
  refine zr_iand h dJ6_numberOfTrailingZeros_0f7a4_6 ?_
  refine zr_topi (fun x0_7 ex => ?_)
  have hk := zOk_bnd ex hk
  refine zr_istore_n (L' := [(0, .int x0_7)]) h [0] dJ6_numberOfTrailingZeros_0f7a4_7 rfl (by decide) rfl ?_
  refine zr_iload_n h dJ6_numberOfTrailingZeros_0f7a4_8 0 rfl rfl ?_
  refine zr_if_gt (tgt := 17) h dJ6_numberOfTrailingZeros_0f7a4_9 (by decide) (fun c => ?_) (fun c => ?_)
  · have hk := zOk_t c hk
    refine zr_iconst (v := 1) h dJ6_numberOfTrailingZeros_0f7a4_17 (by decide) ?_
    refine zr_istore_n (L' := [(0, .int x0_7), (1, .int (1 : Int32))]) h [1, 0] dJ6_numberOfTrailingZeros_0f7a4_18 rfl (by decide) rfl ?_
    refine zr_iload_n h dJ6_numberOfTrailingZeros_0f7a4_19 0 rfl rfl ?_
    refine zr_ldcw (v := 65536) h dJ6_numberOfTrailingZeros_0f7a4_20 (zm_50 _ (List.mem_of_getElem? (i := 21) rfl)) ?_
    refine zr_icmp_le (tgt := 34) h dJ6_numberOfTrailingZeros_0f7a4_23 (by decide) (fun c => ?_) (fun c => ?_)
    · have hk := zOk_t c hk
      exact w_J6_numberOfTrailingZeros_0f7a4_34 M h x0_7 (1 : Int32) hk
    · have hk := zOk_f c hk
      obtain ⟨x1_26, ex⟩ : ∃ y : Int32, y = (1 : Int32) + 16 := ⟨_, rfl⟩
      have hk := zOk_bnd ex hk
      refine zr_iinc (v := x1_26) (L' := [(0, .int x0_7), (1, .int x1_26)]) h 1 [1, 0] dJ6_numberOfTrailingZeros_0f7a4_26 rfl (by rw [ex]; rfl) (by decide) rfl ?_
      refine zr_iload_n h dJ6_numberOfTrailingZeros_0f7a4_29 0 rfl rfl ?_
      refine zr_bipush (v := 16) h dJ6_numberOfTrailingZeros_0f7a4_30 (by decide) ?_
      refine zr_iushr h dJ6_numberOfTrailingZeros_0f7a4_32 ?_
      refine zr_topi (fun x0_33 ex => ?_)
      have hk := zOk_bnd ex hk
      refine zr_istore_n (L' := [(0, .int x0_33), (1, .int x1_26)]) h [0, 1] dJ6_numberOfTrailingZeros_0f7a4_33 rfl (by decide) rfl ?_
      exact w_J6_numberOfTrailingZeros_0f7a4_34 M h x0_33 x1_26 hk
  · have hk := zOk_f c hk
    refine zr_iload_n h dJ6_numberOfTrailingZeros_0f7a4_12 0 rfl rfl ?_
    refine zr_bipush (v := 32) h dJ6_numberOfTrailingZeros_0f7a4_13 (by decide) ?_
    refine zr_iand h dJ6_numberOfTrailingZeros_0f7a4_15 ?_
    have hk := zOk_some hk
    exact zr_iret h dJ6_numberOfTrailingZeros_0f7a4_16 ⟨rfl, _, rfl, hk⟩
