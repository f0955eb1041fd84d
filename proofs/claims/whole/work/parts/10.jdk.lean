
/-! what stands by hand: a method that answers an object; the texts of consonants and vowels -/
def zRq (E : ZEv) (M : ZMem) (j : Nat) : ZR := fun M' v => M' = M ∧ v = some (zrf E j)
theorem zr_callVq {ly : List ZEnt} {E : ZEv} {G : ZG} {Ret : ZR} {cc : ByteArray} {own : String} {nL : Nat} {rt : Option FieldType} {lev : Nat} {M : ZMem} {pc : Nat} {L : List (Nat × Value)} {st stk : List Value} {index n maxL lev' : Nat} {y : MethodName} {bytes : ByteArray} {ret : Option FieldType} {As : List Value} (h : zRu ly E G Ret cc own nL rt lev) {q ci : Nat} {fl : List (Option Nat)} (hq : ly[q]? = some (.inr (ci, fl))) (hw : zCV own index ci y bytes maxL ret n) (hlev : lev' < lev) {j : Nat} (hM : zCon ly E y bytes maxL ret lev' (zrf E q :: As) M (zRq E M j)) (hn : As.length = n) (hst : As.reverse ++ zrf E q :: st = stk) (hc : (st.map fun v => v.category).sum ≤ 8) (d : decode cc pc = .ok (.invokevirtual index, 3)) (kk : G M (pc + 3) L (zrf E j :: st)) : G M pc L stk := zr_callV h hq hw hlev hM hn hst hc d (fun M' v hr => by obtain ⟨rfl, rfl⟩ := hr; exact kk)
/-- which of the letters it is, -1: none of them -/
def zidx (w : Nat) (c : Int32) : Int32 := if w = 0 then (if c = 112 then 0 else if c = 116 then 1 else if c = 107 then 2 else if c = 109 then 3 else if c = 110 then 4 else if c = 114 then 5 else if c = 108 then 6 else if c = 115 then 7 else if c = 119 then 8 else if c = 106 then 9 else -1) else (if c = 97 then 0 else if c = 101 then 1 else if c = 105 then 2 else if c = 111 then 3 else if c = 117 then 4 else -1)

theorem dJ6_bitCount_0f7a4_0 : decode cJ6_bitCount_0f7a4 0 = .ok (.iload_n 0, 1) := by decide +kernel
theorem dJ6_bitCount_0f7a4_1 : decode cJ6_bitCount_0f7a4 1 = .ok (.iload_n 0, 1) := by decide +kernel
theorem dJ6_bitCount_0f7a4_2 : decode cJ6_bitCount_0f7a4 2 = .ok (.iconst 1, 1) := by decide +kernel
theorem dJ6_bitCount_0f7a4_3 : decode cJ6_bitCount_0f7a4 3 = .ok (.iushr, 1) := by decide +kernel
theorem dJ6_bitCount_0f7a4_4 : decode cJ6_bitCount_0f7a4 4 = .ok (.ldc_w 265, 3) := by decide +kernel
theorem dJ6_bitCount_0f7a4_7 : decode cJ6_bitCount_0f7a4 7 = .ok (.iand, 1) := by decide +kernel
theorem dJ6_bitCount_0f7a4_8 : decode cJ6_bitCount_0f7a4 8 = .ok (.isub, 1) := by decide +kernel
theorem dJ6_bitCount_0f7a4_9 : decode cJ6_bitCount_0f7a4 9 = .ok (.istore_n 0, 1) := by decide +kernel
theorem dJ6_bitCount_0f7a4_10 : decode cJ6_bitCount_0f7a4 10 = .ok (.iload_n 0, 1) := by decide +kernel
theorem dJ6_bitCount_0f7a4_11 : decode cJ6_bitCount_0f7a4 11 = .ok (.ldc_w 266, 3) := by decide +kernel
theorem dJ6_bitCount_0f7a4_14 : decode cJ6_bitCount_0f7a4 14 = .ok (.iand, 1) := by decide +kernel
theorem dJ6_bitCount_0f7a4_15 : decode cJ6_bitCount_0f7a4 15 = .ok (.iload_n 0, 1) := by decide +kernel
theorem dJ6_bitCount_0f7a4_16 : decode cJ6_bitCount_0f7a4 16 = .ok (.iconst 2, 1) := by decide +kernel
theorem dJ6_bitCount_0f7a4_17 : decode cJ6_bitCount_0f7a4 17 = .ok (.iushr, 1) := by decide +kernel
theorem dJ6_bitCount_0f7a4_18 : decode cJ6_bitCount_0f7a4 18 = .ok (.ldc_w 266, 3) := by decide +kernel
theorem dJ6_bitCount_0f7a4_21 : decode cJ6_bitCount_0f7a4 21 = .ok (.iand, 1) := by decide +kernel
theorem dJ6_bitCount_0f7a4_22 : decode cJ6_bitCount_0f7a4 22 = .ok (.iadd, 1) := by decide +kernel
theorem dJ6_bitCount_0f7a4_23 : decode cJ6_bitCount_0f7a4 23 = .ok (.istore_n 0, 1) := by decide +kernel
theorem dJ6_bitCount_0f7a4_24 : decode cJ6_bitCount_0f7a4 24 = .ok (.iload_n 0, 1) := by decide +kernel
theorem dJ6_bitCount_0f7a4_25 : decode cJ6_bitCount_0f7a4 25 = .ok (.iload_n 0, 1) := by decide +kernel
theorem dJ6_bitCount_0f7a4_26 : decode cJ6_bitCount_0f7a4 26 = .ok (.iconst 4, 1) := by decide +kernel
theorem dJ6_bitCount_0f7a4_27 : decode cJ6_bitCount_0f7a4 27 = .ok (.iushr, 1) := by decide +kernel
theorem dJ6_bitCount_0f7a4_28 : decode cJ6_bitCount_0f7a4 28 = .ok (.iadd, 1) := by decide +kernel
theorem dJ6_bitCount_0f7a4_29 : decode cJ6_bitCount_0f7a4 29 = .ok (.ldc_w 267, 3) := by decide +kernel
theorem dJ6_bitCount_0f7a4_32 : decode cJ6_bitCount_0f7a4 32 = .ok (.iand, 1) := by decide +kernel
theorem dJ6_bitCount_0f7a4_33 : decode cJ6_bitCount_0f7a4 33 = .ok (.istore_n 0, 1) := by decide +kernel
theorem dJ6_bitCount_0f7a4_34 : decode cJ6_bitCount_0f7a4 34 = .ok (.iload_n 0, 1) := by decide +kernel
theorem dJ6_bitCount_0f7a4_35 : decode cJ6_bitCount_0f7a4 35 = .ok (.iload_n 0, 1) := by decide +kernel
theorem dJ6_bitCount_0f7a4_36 : decode cJ6_bitCount_0f7a4 36 = .ok (.bipush 8, 2) := by decide +kernel
theorem dJ6_bitCount_0f7a4_38 : decode cJ6_bitCount_0f7a4 38 = .ok (.iushr, 1) := by decide +kernel
theorem dJ6_bitCount_0f7a4_39 : decode cJ6_bitCount_0f7a4 39 = .ok (.iadd, 1) := by decide +kernel
theorem dJ6_bitCount_0f7a4_40 : decode cJ6_bitCount_0f7a4 40 = .ok (.istore_n 0, 1) := by decide +kernel
theorem dJ6_bitCount_0f7a4_41 : decode cJ6_bitCount_0f7a4 41 = .ok (.iload_n 0, 1) := by decide +kernel
theorem dJ6_bitCount_0f7a4_42 : decode cJ6_bitCount_0f7a4 42 = .ok (.iload_n 0, 1) := by decide +kernel
theorem dJ6_bitCount_0f7a4_43 : decode cJ6_bitCount_0f7a4 43 = .ok (.bipush 16, 2) := by decide +kernel
theorem dJ6_bitCount_0f7a4_45 : decode cJ6_bitCount_0f7a4 45 = .ok (.iushr, 1) := by decide +kernel
theorem dJ6_bitCount_0f7a4_46 : decode cJ6_bitCount_0f7a4 46 = .ok (.iadd, 1) := by decide +kernel
theorem dJ6_bitCount_0f7a4_47 : decode cJ6_bitCount_0f7a4 47 = .ok (.istore_n 0, 1) := by decide +kernel
theorem dJ6_bitCount_0f7a4_48 : decode cJ6_bitCount_0f7a4 48 = .ok (.iload_n 0, 1) := by decide +kernel
theorem dJ6_bitCount_0f7a4_49 : decode cJ6_bitCount_0f7a4 49 = .ok (.bipush 63, 2) := by decide +kernel
theorem dJ6_bitCount_0f7a4_51 : decode cJ6_bitCount_0f7a4 51 = .ok (.iand, 1) := by decide +kernel
theorem dJ6_bitCount_0f7a4_52 : decode cJ6_bitCount_0f7a4 52 = .ok (.ireturn, 1) := by decide +kernel
noncomputable def f_J6_bitCount_0f7a4 (M : ZMem) (x0 : Int32) : Option Int32 := zbnd (x0 - ((zushr x0 (zI 1)) &&& (1431655765 : Int32))) (fun x0_9 => zbnd ((x0_9 &&& (858993459 : Int32)) + ((zushr x0_9 (zI 2)) &&& (858993459 : Int32))) (fun x0_23 => zbnd ((x0_23 + (zushr x0_23 (zI 4))) &&& (252645135 : Int32)) (fun x0_33 => zbnd (x0_33 + (zushr x0_33 (zI 8))) (fun x0_40 => zbnd (x0_40 + (zushr x0_40 (zI 16))) (fun x0_47 => some (x0_47 &&& (zI 63)))))))
set_option maxRecDepth 100000 in
set_option maxHeartbeats 4000000 in
theorem c_J6_bitCount_0f7a4 {ly : List ZEnt} (E : ZEv) (M : ZMem) (x0 : Int32) (K : Int32 → Prop) (hk : zOk (f_J6_bitCount_0f7a4 M x0) K) : zCon ly E yJ6_bitCount_0f7a4 cJ6_bitCount_0f7a4 1 (some .int) 0 [.int x0] M (zRp M K) := by
  refine zcon_of (L0 := [(0, .int x0)]) (by decide) rfl (Nat.le_of_ble_eq_true rfl) (fun G h => ?_)
  have h : zRu ly E G (zRp M K) cJ6_bitCount_0f7a4 RJ6 1 (some .int) 0 := h
  unfold f_J6_bitCount_0f7a4 at hk
  refine zr_iload_n h dJ6_bitCount_0f7a4_0 0 rfl rfl ?_
  refine zr_iload_n h dJ6_bitCount_0f7a4_1 0 rfl rfl ?_
  refine zr_iconst (v := (zI 1)) h dJ6_bitCount_0f7a4_2 rfl ?_
  refine zr_iushr h dJ6_bitCount_0f7a4_3 ?_
  refine zr_ldcw (v := 1431655765) h dJ6_bitCount_0f7a4_4 (zm_12 _ (List.mem_of_getElem? (i := 20) rfl)) ?_
  refine zr_iand h dJ6_bitCount_0f7a4_7 ?_
  refine zr_isub h dJ6_bitCount_0f7a4_8 ?_
  refine zr_topi (fun x0_9 ex => ?_)
  have hk := zOk_bnd ex hk
  refine zr_istore_n (L' := [(0, .int x0_9)]) h [0] dJ6_bitCount_0f7a4_9 rfl (by decide) rfl ?_
  refine zr_iload_n h dJ6_bitCount_0f7a4_10 0 rfl rfl ?_
  refine zr_ldcw (v := 858993459) h dJ6_bitCount_0f7a4_11 (zm_12 _ (List.mem_of_getElem? (i := 21) rfl)) ?_
  refine zr_iand h dJ6_bitCount_0f7a4_14 ?_
  refine zr_iload_n h dJ6_bitCount_0f7a4_15 0 rfl rfl ?_
  refine zr_iconst (v := (zI 2)) h dJ6_bitCount_0f7a4_16 rfl ?_
  refine zr_iushr h dJ6_bitCount_0f7a4_17 ?_
  refine zr_ldcw (v := 858993459) h dJ6_bitCount_0f7a4_18 (zm_12 _ (List.mem_of_getElem? (i := 21) rfl)) ?_
  refine zr_iand h dJ6_bitCount_0f7a4_21 ?_
  refine zr_iadd h dJ6_bitCount_0f7a4_22 ?_
  refine zr_topi (fun x0_23 ex => ?_)
  have hk := zOk_bnd ex hk
  refine zr_istore_n (L' := [(0, .int x0_23)]) h [0] dJ6_bitCount_0f7a4_23 rfl (by decide) rfl ?_
  refine zr_iload_n h dJ6_bitCount_0f7a4_24 0 rfl rfl ?_
  refine zr_iload_n h dJ6_bitCount_0f7a4_25 0 rfl rfl ?_
  refine zr_iconst (v := (zI 4)) h dJ6_bitCount_0f7a4_26 rfl ?_
  refine zr_iushr h dJ6_bitCount_0f7a4_27 ?_
  refine zr_iadd h dJ6_bitCount_0f7a4_28 ?_
  refine zr_ldcw (v := 252645135) h dJ6_bitCount_0f7a4_29 (zm_12 _ (List.mem_of_getElem? (i := 22) rfl)) ?_
  refine zr_iand h dJ6_bitCount_0f7a4_32 ?_
  refine zr_topi (fun x0_33 ex => ?_)
  have hk := zOk_bnd ex hk
  refine zr_istore_n (L' := [(0, .int x0_33)]) h [0] dJ6_bitCount_0f7a4_33 rfl (by decide) rfl ?_
  refine zr_iload_n h dJ6_bitCount_0f7a4_34 0 rfl rfl ?_
  refine zr_iload_n h dJ6_bitCount_0f7a4_35 0 rfl rfl ?_
  refine zr_bipush (v := (zI 8)) h dJ6_bitCount_0f7a4_36 (by decide) ?_
  refine zr_iushr h dJ6_bitCount_0f7a4_38 ?_
  refine zr_iadd h dJ6_bitCount_0f7a4_39 ?_
  refine zr_topi (fun x0_40 ex => ?_)
  have hk := zOk_bnd ex hk
  refine zr_istore_n (L' := [(0, .int x0_40)]) h [0] dJ6_bitCount_0f7a4_40 rfl (by decide) rfl ?_
  refine zr_iload_n h dJ6_bitCount_0f7a4_41 0 rfl rfl ?_
  refine zr_iload_n h dJ6_bitCount_0f7a4_42 0 rfl rfl ?_
  refine zr_bipush (v := (zI 16)) h dJ6_bitCount_0f7a4_43 (by decide) ?_
  refine zr_iushr h dJ6_bitCount_0f7a4_45 ?_
  refine zr_iadd h dJ6_bitCount_0f7a4_46 ?_
  refine zr_topi (fun x0_47 ex => ?_)
  have hk := zOk_bnd ex hk
  refine zr_istore_n (L' := [(0, .int x0_47)]) h [0] dJ6_bitCount_0f7a4_47 rfl (by decide) rfl ?_
  refine zr_iload_n h dJ6_bitCount_0f7a4_48 0 rfl rfl ?_
  refine zr_bipush (v := (zI 63)) h dJ6_bitCount_0f7a4_49 (by decide) ?_
  refine zr_iand h dJ6_bitCount_0f7a4_51 ?_
  have hk := zOk_some hk
  exact zr_iret h dJ6_bitCount_0f7a4_52 ⟨rfl, _, rfl, hk⟩
theorem dJ7_fill_53178_0 : decode cJ7_fill_53178 0 = .ok (.iconst 0, 1) := by decide +kernel
theorem dJ7_fill_53178_1 : decode cJ7_fill_53178 1 = .ok (.istore_n 2, 1) := by decide +kernel
theorem dJ7_fill_53178_2 : decode cJ7_fill_53178 2 = .ok (.aload_n 0, 1) := by decide +kernel
theorem dJ7_fill_53178_3 : decode cJ7_fill_53178 3 = .ok (.arraylength, 1) := by decide +kernel
theorem dJ7_fill_53178_4 : decode cJ7_fill_53178 4 = .ok (.istore_n 3, 1) := by decide +kernel
theorem dJ7_fill_53178_5 : decode cJ7_fill_53178 5 = .ok (.iload_n 2, 1) := by decide +kernel
theorem dJ7_fill_53178_6 : decode cJ7_fill_53178 6 = .ok (.iload_n 3, 1) := by decide +kernel
theorem dJ7_fill_53178_7 : decode cJ7_fill_53178 7 = .ok (.if_icmp .ge 13, 3) := by decide +kernel
theorem dJ7_fill_53178_10 : decode cJ7_fill_53178 10 = .ok (.aload_n 0, 1) := by decide +kernel
theorem dJ7_fill_53178_11 : decode cJ7_fill_53178 11 = .ok (.iload_n 2, 1) := by decide +kernel
theorem dJ7_fill_53178_12 : decode cJ7_fill_53178 12 = .ok (.iload_n 1, 1) := by decide +kernel
theorem dJ7_fill_53178_13 : decode cJ7_fill_53178 13 = .ok (.iastore, 1) := by decide +kernel
theorem dJ7_fill_53178_14 : decode cJ7_fill_53178 14 = .ok (.iinc 2 1, 3) := by decide +kernel
theorem dJ7_fill_53178_17 : decode cJ7_fill_53178 17 = .ok (.goto (-12), 3) := by decide +kernel
theorem dJ7_fill_53178_20 : decode cJ7_fill_53178 20 = .ok (.return_, 1) := by decide +kernel
noncomputable def f_J7_fill_53178_L5 (q0 : Nat) (n0 : Nat) (x1 : Int32) (x3 : Int32) (s : (ZMem × Int32)) : Option ((ZMem × Int32) ⊕ (ZMem)) := if x3 ≤ s.2 then some (.inr s.1) else zchk (zin s.2 n0) (zbnd (zstI s.1 q0 (zix s.2) x1) (fun M_13 => zbnd (s.2 + (zI 1)) (fun x2_14 => some (.inl (M_13, x2_14)))))
set_option maxRecDepth 100000 in
set_option maxHeartbeats 4000000 in
theorem w_J7_fill_53178_L5 {ly : List ZEnt} {E : ZEv} {G : ZG} {K : ZMem → Prop} (h : zRu ly E G (zRv K) cJ7_fill_53178 RJ7 4 none 0) (q0 : Nat) (n0 : Nat) (hq0 : ly[q0]? = some (.inl (0, n0))) (x1 : Int32) (x3 : Int32) (s : (ZMem × Int32)) (hk : zOk (zloop (f_J7_fill_53178_L5 q0 n0 x1 x3) s) (fun e => G e 20 [] [])) : G s.1 5 [(0, zrf E q0), (1, .int x1), (2, .int s.2), (3, .int x3)] [] := by
  refine zloop_walk (P := fun s => G s.1 5 [(0, zrf E q0), (1, .int x1), (2, .int s.2), (3, .int x3)] []) hk (fun s hk => ?_)
  unfold f_J7_fill_53178_L5 at hk
  refine zr_iload_n h dJ7_fill_53178_5 2 rfl rfl ?_
  refine zr_iload_n h dJ7_fill_53178_6 3 rfl rfl ?_
  refine zr_icmp_ge (tgt := 20) h dJ7_fill_53178_7 (by decide) (fun c => ?_) (fun c => ?_)
  · have hk := zOk_t c hk
    have hk := zOk_some hk
    exact zr_weak h [] rfl hk
  · have hk := zOk_f c hk
    refine zr_aload_n h dJ7_fill_53178_10 0 rfl rfl ?_
    refine zr_iload_n h dJ7_fill_53178_11 2 rfl rfl ?_
    refine zr_iload_n h dJ7_fill_53178_12 1 rfl rfl ?_
    have hb := zOk_chk hk
    have hk := hb.2
    refine zr_iast h hq0 hb.1 dJ7_fill_53178_13 ?_
    refine zr_mem (fun M_13 eM => ?_)
    have hk := zOk_bnd eM hk
    obtain ⟨x2_14, ex⟩ : ∃ y : Int32, y = s.2 + (zI 1) := ⟨_, rfl⟩
    have hk := zOk_bnd ex hk
    refine zr_iinc (v := x2_14) (L' := [(0, zrf E q0), (1, .int x1), (2, .int x2_14), (3, .int x3)]) h 2 [1, 2, 0, 3] dJ7_fill_53178_14 rfl (by rw [ex]; rfl) (by decide) rfl ?_
    refine zr_goto (tgt := 5) h dJ7_fill_53178_17 (by decide) ?_
    have hk := zOk_some hk
    exact zr_weak h [0, 1, 2, 3] rfl hk
noncomputable def f_J7_fill_53178 (q0 : Nat) (n0 : Nat) (M : ZMem) (x1 : Int32) : Option ZMem := zbnd (zI n0) (fun x3_4 => zbind (zloop (f_J7_fill_53178_L5 q0 n0 x1 x3_4) (M, (zI 0))) (fun e5 => some e5))
set_option maxRecDepth 100000 in
set_option maxHeartbeats 4000000 in
theorem c_J7_fill_53178 {ly : List ZEnt} (E : ZEv) (q0 : Nat) (n0 : Nat) (hq0 : ly[q0]? = some (.inl (0, n0))) (M : ZMem) (x1 : Int32) (K : ZMem → Prop) (hk : zOk (f_J7_fill_53178 q0 n0 M x1) K) : zCon ly E yJ7_fill_53178 cJ7_fill_53178 4 none 0 [zrf E q0, .int x1] M (zRv K) := by
  refine zcon_of (L0 := [(0, zrf E q0), (1, .int x1)]) (by decide) rfl (Nat.le_of_ble_eq_true rfl) (fun G h => ?_)
  have h : zRu ly E G (zRv K) cJ7_fill_53178 RJ7 4 none 0 := h
  unfold f_J7_fill_53178 at hk
  refine zr_iconst (v := (zI 0)) h dJ7_fill_53178_0 rfl ?_
  refine zr_istore_n (L' := [(0, zrf E q0), (1, .int x1), (2, .int (zI 0))]) h [1, 2, 0] dJ7_fill_53178_1 rfl (by decide) rfl ?_
  refine zr_aload_n h dJ7_fill_53178_2 0 rfl rfl ?_
  refine zr_alen h (by decide) hq0 dJ7_fill_53178_3 ?_
  refine zr_topi (fun x3_4 ex => ?_)
  have hk := zOk_bnd ex hk
  refine zr_istore_n (L' := [(0, zrf E q0), (1, .int x1), (2, .int (zI 0)), (3, .int x3_4)]) h [1, 2, 3, 0] dJ7_fill_53178_4 rfl (by decide) rfl ?_
  refine w_J7_fill_53178_L5 h q0 n0 hq0 x1 x3_4 (M, (zI 0)) (zOk_mono (zOk_bind hk) (fun e5 hk => ?_))
  have hk := zOk_some hk
  exact zr_vret h dJ7_fill_53178_20 ⟨rfl, hk⟩
theorem dJ0_isLatin1_aae02_0 : decode cJ0_isLatin1_aae02 0 = .ok (.getstatic 38, 3) := by decide +kernel
theorem dJ0_isLatin1_aae02_3 : decode cJ0_isLatin1_aae02 3 = .ok (.ifCond .eq 14, 3) := by decide +kernel
theorem dJ0_isLatin1_aae02_6 : decode cJ0_isLatin1_aae02 6 = .ok (.aload_n 0, 1) := by decide +kernel
theorem dJ0_isLatin1_aae02_7 : decode cJ0_isLatin1_aae02 7 = .ok (.getfield 15, 3) := by decide +kernel
theorem dJ0_isLatin1_aae02_10 : decode cJ0_isLatin1_aae02 10 = .ok (.ifCond .ne 7, 3) := by decide +kernel
theorem dJ0_isLatin1_aae02_13 : decode cJ0_isLatin1_aae02 13 = .ok (.iconst 1, 1) := by decide +kernel
theorem dJ0_isLatin1_aae02_14 : decode cJ0_isLatin1_aae02 14 = .ok (.goto 4, 3) := by decide +kernel
theorem dJ0_isLatin1_aae02_17 : decode cJ0_isLatin1_aae02 17 = .ok (.iconst 0, 1) := by decide +kernel
theorem dJ0_isLatin1_aae02_18 : decode cJ0_isLatin1_aae02 18 = .ok (.ireturn, 1) := by decide +kernel
noncomputable def f_J0_isLatin1_aae02 (w : Nat) (M : ZMem) : Option Int32 := if (zI 1) = (zI 0) then some (zI 0) else if (zI 0) = (zI 0) then some (zI 1) else some (zI 0)
set_option maxRecDepth 100000 in
set_option maxHeartbeats 4000000 in
theorem c_J0_isLatin1_aae02 {ly : List ZEnt} (E : ZEv) (w : Nat) (hw : w < 2) (M : ZMem) (K : Int32 → Prop) (hk : zOk (f_J0_isLatin1_aae02 w M) K) : zCon ly E yJ0_isLatin1_aae02 cJ0_isLatin1_aae02 1 (some .boolean) 0 [zrf E (1000 + w)] M (zRp M K) := by
  refine zcon_of (L0 := [(0, zrf E (1000 + w))]) (by decide) rfl (Nat.le_of_ble_eq_true rfl) (fun G h => ?_)
  have h : zRu ly E G (zRp M K) cJ0_isLatin1_aae02 RJ0 1 (some .boolean) 0 := h
  unfold f_J0_isLatin1_aae02 at hk
  refine zr_compact h (zm_20 _ (List.mem_of_getElem? (i := 19) rfl)) dJ0_isLatin1_aae02_0 ?_
  refine zr_if_eq (tgt := 17) h dJ0_isLatin1_aae02_3 (by decide) (fun c => ?_) (fun c => ?_)
  · have hk := zOk_t c hk
    refine zr_iconst (v := (zI 0)) h dJ0_isLatin1_aae02_17 rfl ?_
    have hk := zOk_some hk
    exact zr_zret h dJ0_isLatin1_aae02_18 (by decide) ⟨rfl, _, rfl, hk⟩
  · have hk := zOk_f c hk
    refine zr_aload_n h dJ0_isLatin1_aae02_6 0 rfl rfl ?_
    refine zr_tcod h hw (zm_20 _ (List.mem_of_getElem? (i := 20) rfl)) dJ0_isLatin1_aae02_7 ?_
    refine zr_if_ne (tgt := 17) h dJ0_isLatin1_aae02_10 (by decide) (fun c => ?_) (fun c => ?_)
    · have hk := zOk_t c hk
      refine zr_iconst (v := (zI 1)) h dJ0_isLatin1_aae02_13 rfl ?_
      refine zr_goto (tgt := 18) h dJ0_isLatin1_aae02_14 (by decide) ?_
      have hk := zOk_some hk
      exact zr_zret h dJ0_isLatin1_aae02_18 (by decide) ⟨rfl, _, rfl, hk⟩
    · have hk := zOk_f c hk
      refine zr_iconst (v := (zI 0)) h dJ0_isLatin1_aae02_17 rfl ?_
      have hk := zOk_some hk
      exact zr_zret h dJ0_isLatin1_aae02_18 (by decide) ⟨rfl, _, rfl, hk⟩
theorem dJ0_coder_7d493_0 : decode cJ0_coder_7d493 0 = .ok (.getstatic 38, 3) := by decide +kernel
theorem dJ0_coder_7d493_3 : decode cJ0_coder_7d493 3 = .ok (.ifCond .eq 10, 3) := by decide +kernel
theorem dJ0_coder_7d493_6 : decode cJ0_coder_7d493 6 = .ok (.aload_n 0, 1) := by decide +kernel
theorem dJ0_coder_7d493_7 : decode cJ0_coder_7d493 7 = .ok (.getfield 15, 3) := by decide +kernel
theorem dJ0_coder_7d493_10 : decode cJ0_coder_7d493 10 = .ok (.goto 4, 3) := by decide +kernel
theorem dJ0_coder_7d493_13 : decode cJ0_coder_7d493 13 = .ok (.iconst 1, 1) := by decide +kernel
theorem dJ0_coder_7d493_14 : decode cJ0_coder_7d493 14 = .ok (.ireturn, 1) := by decide +kernel
noncomputable def f_J0_coder_7d493 (w : Nat) (M : ZMem) : Option Int32 := if (zI 1) = (zI 0) then some (zI 1) else some (zI 0)
set_option maxRecDepth 100000 in
set_option maxHeartbeats 4000000 in
theorem c_J0_coder_7d493 {ly : List ZEnt} (E : ZEv) (w : Nat) (hw : w < 2) (M : ZMem) (K : Int32 → Prop) (hk : zOk (f_J0_coder_7d493 w M) K) : zCon ly E yJ0_coder_7d493 cJ0_coder_7d493 1 (some .byte) 0 [zrf E (1000 + w)] M (zRp M K) := by
  refine zcon_of (L0 := [(0, zrf E (1000 + w))]) (by decide) rfl (Nat.le_of_ble_eq_true rfl) (fun G h => ?_)
  have h : zRu ly E G (zRp M K) cJ0_coder_7d493 RJ0 1 (some .byte) 0 := h
  unfold f_J0_coder_7d493 at hk
  refine zr_compact h (zm_20 _ (List.mem_of_getElem? (i := 19) rfl)) dJ0_coder_7d493_0 ?_
  refine zr_if_eq (tgt := 13) h dJ0_coder_7d493_3 (by decide) (fun c => ?_) (fun c => ?_)
  · have hk := zOk_t c hk
    refine zr_iconst (v := (zI 1)) h dJ0_coder_7d493_13 rfl ?_
    have hk := zOk_some hk
    exact zr_nret h dJ0_coder_7d493_14 (by decide) ⟨rfl, _, rfl, hk⟩
  · have hk := zOk_f c hk
    refine zr_aload_n h dJ0_coder_7d493_6 0 rfl rfl ?_
    refine zr_tcod h hw (zm_20 _ (List.mem_of_getElem? (i := 20) rfl)) dJ0_coder_7d493_7 ?_
    refine zr_goto (tgt := 14) h dJ0_coder_7d493_10 (by decide) ?_
    have hk := zOk_some hk
    exact zr_nret h dJ0_coder_7d493_14 (by decide) ⟨rfl, _, rfl, hk⟩
theorem dJ0_length_8abf5_0 : decode cJ0_length_8abf5 0 = .ok (.aload_n 0, 1) := by decide +kernel
theorem dJ0_length_8abf5_1 : decode cJ0_length_8abf5 1 = .ok (.getfield 9, 3) := by decide +kernel
theorem dJ0_length_8abf5_4 : decode cJ0_length_8abf5 4 = .ok (.arraylength, 1) := by decide +kernel
theorem dJ0_length_8abf5_5 : decode cJ0_length_8abf5 5 = .ok (.aload_n 0, 1) := by decide +kernel
theorem dJ0_length_8abf5_6 : decode cJ0_length_8abf5 6 = .ok (.invokevirtual 335, 3) := by decide +kernel
theorem dJ0_length_8abf5_9 : decode cJ0_length_8abf5 9 = .ok (.ishr, 1) := by decide +kernel
theorem dJ0_length_8abf5_10 : decode cJ0_length_8abf5 10 = .ok (.ireturn, 1) := by decide +kernel
noncomputable def f_J0_length_8abf5 (w : Nat) (M : ZMem) : Option Int32 := zbind (f_J0_coder_7d493 w M) (fun r_6 => some ((zI (zLen.getD w 0)) >>> (r_6 &&& 31)))
set_option maxRecDepth 100000 in
set_option maxHeartbeats 4000000 in
theorem c_J0_length_8abf5 {ly : List ZEnt} (E : ZEv) (w : Nat) (hw : w < 2) (M : ZMem) (K : Int32 → Prop) (hk : zOk (f_J0_length_8abf5 w M) K) : zCon ly E yJ0_length_8abf5 cJ0_length_8abf5 1 (some .int) 1 [zrf E (1000 + w)] M (zRp M K) := by
  refine zcon_of (L0 := [(0, zrf E (1000 + w))]) (by decide) rfl (Nat.le_of_ble_eq_true rfl) (fun G h => ?_)
  have h : zRu ly E G (zRp M K) cJ0_length_8abf5 RJ0 1 (some .int) 1 := h
  unfold f_J0_length_8abf5 at hk
  refine zr_aload_n h dJ0_length_8abf5_0 0 rfl rfl ?_
  refine zr_tval h hw (zm_20 _ (List.mem_of_getElem? (i := 14) rfl)) dJ0_length_8abf5_1 ?_
  refine zr_tlen h hw dJ0_length_8abf5_4 ?_
  refine zr_aload_n h dJ0_length_8abf5_5 0 rfl rfl ?_
  refine zr_callT (w := w) h hw (List.forall_mem_cons.mpr ⟨(zm_21 _ (List.mem_of_getElem? (i := 1) rfl)), (List.forall_mem_cons.mpr ⟨(zm_21 _ (List.mem_of_getElem? (i := 2) rfl)), (List.forall_mem_cons.mpr ⟨(zm_21 _ (List.mem_of_getElem? (i := 3) rfl)), (List.forall_mem_cons.mpr ⟨(zm_20 _ (List.mem_of_getElem? (i := 8) rfl)), (List.forall_mem_cons.mpr ⟨(zm_21 _ (List.mem_of_getElem? (i := 4) rfl)), (fun _ h => absurd h List.not_mem_nil)⟩)⟩)⟩)⟩)⟩) ⟨rfl, by decide, by decide, (by decide +kernel : (parseMethodDescriptor yJ0_coder_7d493.desc).map (fun d => d.parameters.length) = some 0)⟩ (by decide) (by decide) (c_J0_coder_7d493 E w hw M _ (zOk_bind hk)) rfl rfl (Nat.le_of_ble_eq_true rfl) dJ0_length_8abf5_6 (fun r_6 hk => ?_)
  refine zr_ishr h dJ0_length_8abf5_9 ?_
  have hk := zOk_some hk
  exact zr_iret h dJ0_length_8abf5_10 ⟨rfl, _, rfl, hk⟩
theorem dJ1_canEncode_9a6ad_0 : decode cJ1_canEncode_9a6ad 0 = .ok (.iload_n 0, 1) := by decide +kernel
theorem dJ1_canEncode_9a6ad_1 : decode cJ1_canEncode_9a6ad 1 = .ok (.ifCond .lt 14, 3) := by decide +kernel
theorem dJ1_canEncode_9a6ad_4 : decode cJ1_canEncode_9a6ad 4 = .ok (.iload_n 0, 1) := by decide +kernel
theorem dJ1_canEncode_9a6ad_5 : decode cJ1_canEncode_9a6ad 5 = .ok (.sipush 255, 3) := by decide +kernel
theorem dJ1_canEncode_9a6ad_8 : decode cJ1_canEncode_9a6ad 8 = .ok (.if_icmp .gt 7, 3) := by decide +kernel
theorem dJ1_canEncode_9a6ad_11 : decode cJ1_canEncode_9a6ad 11 = .ok (.iconst 1, 1) := by decide +kernel
theorem dJ1_canEncode_9a6ad_12 : decode cJ1_canEncode_9a6ad 12 = .ok (.goto 4, 3) := by decide +kernel
theorem dJ1_canEncode_9a6ad_15 : decode cJ1_canEncode_9a6ad 15 = .ok (.iconst 0, 1) := by decide +kernel
theorem dJ1_canEncode_9a6ad_16 : decode cJ1_canEncode_9a6ad 16 = .ok (.ireturn, 1) := by decide +kernel
noncomputable def f_J1_canEncode_9a6ad (M : ZMem) (x0 : Int32) : Option Int32 := if x0 < (zI 0) then some (zI 0) else if (zI 255) < x0 then some (zI 0) else some (zI 1)
set_option maxRecDepth 100000 in
set_option maxHeartbeats 4000000 in
theorem c_J1_canEncode_9a6ad {ly : List ZEnt} (E : ZEv) (M : ZMem) (x0 : Int32) (K : Int32 → Prop) (hk : zOk (f_J1_canEncode_9a6ad M x0) K) : zCon ly E yJ1_canEncode_9a6ad cJ1_canEncode_9a6ad 1 (some .boolean) 0 [.int x0] M (zRp M K) := by
  refine zcon_of (L0 := [(0, .int x0)]) (by decide) rfl (Nat.le_of_ble_eq_true rfl) (fun G h => ?_)
  have h : zRu ly E G (zRp M K) cJ1_canEncode_9a6ad RJ1 1 (some .boolean) 0 := h
  unfold f_J1_canEncode_9a6ad at hk
  refine zr_iload_n h dJ1_canEncode_9a6ad_0 0 rfl rfl ?_
  refine zr_if_lt (tgt := 15) h dJ1_canEncode_9a6ad_1 (by decide) (fun c => ?_) (fun c => ?_)
  · have hk := zOk_t c hk
    refine zr_iconst (v := (zI 0)) h dJ1_canEncode_9a6ad_15 rfl ?_
    have hk := zOk_some hk
    exact zr_zret h dJ1_canEncode_9a6ad_16 (by decide) ⟨rfl, _, rfl, hk⟩
  · have hk := zOk_f c hk
    refine zr_iload_n h dJ1_canEncode_9a6ad_4 0 rfl rfl ?_
    refine zr_sipush (v := (zI 255)) h dJ1_canEncode_9a6ad_5 (by decide) ?_
    refine zr_icmp_gt (tgt := 15) h dJ1_canEncode_9a6ad_8 (by decide) (fun c => ?_) (fun c => ?_)
    · have hk := zOk_t c hk
      refine zr_iconst (v := (zI 0)) h dJ1_canEncode_9a6ad_15 rfl ?_
      have hk := zOk_some hk
      exact zr_zret h dJ1_canEncode_9a6ad_16 (by decide) ⟨rfl, _, rfl, hk⟩
    · have hk := zOk_f c hk
      refine zr_iconst (v := (zI 1)) h dJ1_canEncode_9a6ad_11 rfl ?_
      refine zr_goto (tgt := 16) h dJ1_canEncode_9a6ad_12 (by decide) ?_
      have hk := zOk_some hk
      exact zr_zret h dJ1_canEncode_9a6ad_16 (by decide) ⟨rfl, _, rfl, hk⟩
theorem dJ1_indexOfChar_4cfef_0 : decode cJ1_indexOfChar_4cfef 0 = .ok (.iload_n 1, 1) := by decide +kernel
theorem dJ1_indexOfChar_4cfef_1 : decode cJ1_indexOfChar_4cfef 1 = .ok (.i2b, 1) := by decide +kernel
theorem dJ1_indexOfChar_4cfef_2 : decode cJ1_indexOfChar_4cfef 2 = .ok (.istore 4, 2) := by decide +kernel
theorem dJ1_indexOfChar_4cfef_4 : decode cJ1_indexOfChar_4cfef 4 = .ok (.iload_n 2, 1) := by decide +kernel
theorem dJ1_indexOfChar_4cfef_5 : decode cJ1_indexOfChar_4cfef 5 = .ok (.istore 5, 2) := by decide +kernel
theorem dJ1_indexOfChar_4cfef_7 : decode cJ1_indexOfChar_4cfef 7 = .ok (.iload 5, 2) := by decide +kernel
theorem dJ1_indexOfChar_4cfef_9 : decode cJ1_indexOfChar_4cfef 9 = .ok (.iload_n 3, 1) := by decide +kernel
theorem dJ1_indexOfChar_4cfef_10 : decode cJ1_indexOfChar_4cfef 10 = .ok (.if_icmp .ge 21, 3) := by decide +kernel
theorem dJ1_indexOfChar_4cfef_13 : decode cJ1_indexOfChar_4cfef 13 = .ok (.aload_n 0, 1) := by decide +kernel
theorem dJ1_indexOfChar_4cfef_14 : decode cJ1_indexOfChar_4cfef 14 = .ok (.iload 5, 2) := by decide +kernel
theorem dJ1_indexOfChar_4cfef_16 : decode cJ1_indexOfChar_4cfef 16 = .ok (.baload, 1) := by decide +kernel
theorem dJ1_indexOfChar_4cfef_17 : decode cJ1_indexOfChar_4cfef 17 = .ok (.iload 4, 2) := by decide +kernel
theorem dJ1_indexOfChar_4cfef_19 : decode cJ1_indexOfChar_4cfef 19 = .ok (.if_icmp .ne 6, 3) := by decide +kernel
theorem dJ1_indexOfChar_4cfef_22 : decode cJ1_indexOfChar_4cfef 22 = .ok (.iload 5, 2) := by decide +kernel
theorem dJ1_indexOfChar_4cfef_24 : decode cJ1_indexOfChar_4cfef 24 = .ok (.ireturn, 1) := by decide +kernel
theorem dJ1_indexOfChar_4cfef_25 : decode cJ1_indexOfChar_4cfef 25 = .ok (.iinc 5 1, 3) := by decide +kernel
theorem dJ1_indexOfChar_4cfef_28 : decode cJ1_indexOfChar_4cfef 28 = .ok (.goto (-21), 3) := by decide +kernel
theorem dJ1_indexOfChar_4cfef_31 : decode cJ1_indexOfChar_4cfef 31 = .ok (.iconst (-1), 1) := by decide +kernel
theorem dJ1_indexOfChar_4cfef_32 : decode cJ1_indexOfChar_4cfef 32 = .ok (.ireturn, 1) := by decide +kernel
noncomputable def f_J1_indexOfChar_4cfef_L7 (w : Nat) (M : ZMem) (x3 : Int32) (x4 : Int32) (s : (Int32)) : Option ((Int32) ⊕ ((Unit) ⊕ Int32)) := if x3 ≤ s then some (.inr (.inl ())) else zchk (zin s (zLen.getD w 0)) (if ((zByt.getD w []).getD (zix s) 0) = x4 then some (.inr (.inr s)) else zbnd (s + (zI 1)) (fun x5_25 => some (.inl x5_25)))
set_option maxRecDepth 100000 in
set_option maxHeartbeats 4000000 in
theorem w_J1_indexOfChar_4cfef_L7 {ly : List ZEnt} {E : ZEv} {G : ZG} {K : Int32 → Prop} (M : ZMem) (h : zRu ly E G (zRp M K) cJ1_indexOfChar_4cfef RJ1 6 (some .int) 0) (w : Nat) (hw : w < 2) (x3 : Int32) (x4 : Int32) (s : (Int32)) (hk : zOk (zloop (f_J1_indexOfChar_4cfef_L7 w M x3 x4) s) (fun e => zsel e (fun e0 => G M 31 [] []) (fun f0 => K f0))) : G M 7 [(0, zrf E (1002 + w)), (3, .int x3), (4, .int x4), (5, .int s)] [] := by
  refine zloop_walk (P := fun s => G M 7 [(0, zrf E (1002 + w)), (3, .int x3), (4, .int x4), (5, .int s)] []) hk (fun s hk => ?_)
  unfold f_J1_indexOfChar_4cfef_L7 at hk
  refine zr_iload h dJ1_indexOfChar_4cfef_7 3 rfl ?_
  refine zr_iload_n h dJ1_indexOfChar_4cfef_9 1 rfl rfl ?_
  refine zr_icmp_ge (tgt := 31) h dJ1_indexOfChar_4cfef_10 (by decide) (fun c => ?_) (fun c => ?_)
  · have hk := zOk_t c hk
    have hk := zOk_some hk
    exact zr_weak h [] rfl hk
  · have hk := zOk_f c hk
    refine zr_aload_n h dJ1_indexOfChar_4cfef_13 0 rfl rfl ?_
    refine zr_iload h dJ1_indexOfChar_4cfef_14 3 rfl ?_
    have hb := zOk_chk hk
    have hk := hb.2
    refine zr_tb h hw hb.1 dJ1_indexOfChar_4cfef_16 ?_
    refine zr_iload h dJ1_indexOfChar_4cfef_17 2 rfl ?_
    refine zr_icmp_ne (tgt := 25) h dJ1_indexOfChar_4cfef_19 (by decide) (fun c => ?_) (fun c => ?_)
    · have hk := zOk_t c hk
      refine zr_iload h dJ1_indexOfChar_4cfef_22 3 rfl ?_
      have hk := zOk_some hk
      exact zr_iret h dJ1_indexOfChar_4cfef_24 ⟨rfl, _, rfl, hk⟩
    · have hk := zOk_f c hk
      obtain ⟨x5_25, ex⟩ : ∃ y : Int32, y = s + (zI 1) := ⟨_, rfl⟩
      have hk := zOk_bnd ex hk
      refine zr_iinc (v := x5_25) (L' := [(0, zrf E (1002 + w)), (3, .int x3), (4, .int x4), (5, .int x5_25)]) h 3 [1, 2, 3, 0] dJ1_indexOfChar_4cfef_25 rfl (by rw [ex]; rfl) (by decide) rfl ?_
      refine zr_goto (tgt := 7) h dJ1_indexOfChar_4cfef_28 (by decide) ?_
      have hk := zOk_some hk
      exact zr_weak h [0, 1, 2, 3] rfl hk
noncomputable def f_J1_indexOfChar_4cfef (w : Nat) (M : ZMem) (x1 : Int32) (x2 : Int32) (x3 : Int32) : Option Int32 := zbnd ((x1 : Int32).toInt8.toInt32) (fun x4_2 => zbind (zloop (f_J1_indexOfChar_4cfef_L7 w M x3 x4_2) x2) (fun e7 => zsel e7 (fun e7a => some (zI (-1))) (fun e7b => some e7b)))
set_option maxRecDepth 100000 in
set_option maxHeartbeats 4000000 in
theorem c_J1_indexOfChar_4cfef {ly : List ZEnt} (E : ZEv) (w : Nat) (hw : w < 2) (M : ZMem) (x1 : Int32) (x2 : Int32) (x3 : Int32) (K : Int32 → Prop) (hk : zOk (f_J1_indexOfChar_4cfef w M x1 x2 x3) K) : zCon ly E yJ1_indexOfChar_4cfef cJ1_indexOfChar_4cfef 6 (some .int) 0 [zrf E (1002 + w), .int x1, .int x2, .int x3] M (zRp M K) := by
  refine zcon_of (L0 := [(0, zrf E (1002 + w)), (1, .int x1), (2, .int x2), (3, .int x3)]) (by decide) rfl (Nat.le_of_ble_eq_true rfl) (fun G h => ?_)
  have h : zRu ly E G (zRp M K) cJ1_indexOfChar_4cfef RJ1 6 (some .int) 0 := h
  unfold f_J1_indexOfChar_4cfef at hk
  refine zr_iload_n h dJ1_indexOfChar_4cfef_0 1 rfl rfl ?_
  refine zr_i2b h dJ1_indexOfChar_4cfef_1 ?_
  refine zr_topi (fun x4_2 ex => ?_)
  have hk := zOk_bnd ex hk
  refine zr_istore (L' := [(0, zrf E (1002 + w)), (2, .int x2), (3, .int x3), (4, .int x4_2)]) h [1, 3, 4, 0] dJ1_indexOfChar_4cfef_2 (by decide) rfl ?_
  refine zr_iload_n h dJ1_indexOfChar_4cfef_4 1 rfl rfl ?_
  refine zr_istore (L' := [(0, zrf E (1002 + w)), (3, .int x3), (4, .int x4_2), (5, .int x2)]) h [1, 3, 4, 0] dJ1_indexOfChar_4cfef_5 (by decide) rfl ?_
  refine w_J1_indexOfChar_4cfef_L7 M h w hw x3 x4_2 x2 (zOk_mono (zOk_bind hk) (fun e7 hk => ?_))
  cases e7 with
  | inl e7a =>
    have hk := zOk_selL hk
    refine zr_iconst (v := (zI (-1))) h dJ1_indexOfChar_4cfef_31 rfl ?_
    have hk := zOk_some hk
    exact zr_iret h dJ1_indexOfChar_4cfef_32 ⟨rfl, _, rfl, hk⟩
  | inr e7b =>
    have hk := zOk_selR hk
    have hk := zOk_some hk
    exact hk
theorem dJ1_indexOf_4cfef_0 : decode cJ1_indexOf_4cfef 0 = .ok (.iload_n 1, 1) := by decide +kernel
theorem dJ1_indexOf_4cfef_1 : decode cJ1_indexOf_4cfef 1 = .ok (.invokestatic 88, 3) := by decide +kernel
theorem dJ1_indexOf_4cfef_4 : decode cJ1_indexOf_4cfef 4 = .ok (.ifCond .ne 5, 3) := by decide +kernel
theorem dJ1_indexOf_4cfef_7 : decode cJ1_indexOf_4cfef 7 = .ok (.iconst (-1), 1) := by decide +kernel
theorem dJ1_indexOf_4cfef_8 : decode cJ1_indexOf_4cfef 8 = .ok (.ireturn, 1) := by decide +kernel
theorem dJ1_indexOf_4cfef_9 : decode cJ1_indexOf_4cfef 9 = .ok (.iload_n 2, 1) := by decide +kernel
theorem dJ1_indexOf_4cfef_10 : decode cJ1_indexOf_4cfef 10 = .ok (.iconst 0, 1) := by decide +kernel
theorem dJ1_indexOf_4cfef_11 : decode cJ1_indexOf_4cfef 11 = .ok (.invokestatic 92, 3) := by decide +kernel
theorem dJ1_indexOf_4cfef_14 : decode cJ1_indexOf_4cfef 14 = .ok (.istore_n 2, 1) := by decide +kernel
theorem dJ1_indexOf_4cfef_15 : decode cJ1_indexOf_4cfef 15 = .ok (.iload_n 3, 1) := by decide +kernel
theorem dJ1_indexOf_4cfef_16 : decode cJ1_indexOf_4cfef 16 = .ok (.aload_n 0, 1) := by decide +kernel
theorem dJ1_indexOf_4cfef_17 : decode cJ1_indexOf_4cfef 17 = .ok (.arraylength, 1) := by decide +kernel
theorem dJ1_indexOf_4cfef_18 : decode cJ1_indexOf_4cfef 18 = .ok (.invokestatic 38, 3) := by decide +kernel
theorem dJ1_indexOf_4cfef_21 : decode cJ1_indexOf_4cfef 21 = .ok (.istore_n 3, 1) := by decide +kernel
theorem dJ1_indexOf_4cfef_22 : decode cJ1_indexOf_4cfef 22 = .ok (.iload_n 2, 1) := by decide +kernel
theorem dJ1_indexOf_4cfef_23 : decode cJ1_indexOf_4cfef 23 = .ok (.iload_n 3, 1) := by decide +kernel
theorem dJ1_indexOf_4cfef_24 : decode cJ1_indexOf_4cfef 24 = .ok (.if_icmp .lt 5, 3) := by decide +kernel
theorem dJ1_indexOf_4cfef_27 : decode cJ1_indexOf_4cfef 27 = .ok (.iconst (-1), 1) := by decide +kernel
theorem dJ1_indexOf_4cfef_28 : decode cJ1_indexOf_4cfef 28 = .ok (.ireturn, 1) := by decide +kernel
theorem dJ1_indexOf_4cfef_29 : decode cJ1_indexOf_4cfef 29 = .ok (.aload_n 0, 1) := by decide +kernel
theorem dJ1_indexOf_4cfef_30 : decode cJ1_indexOf_4cfef 30 = .ok (.iload_n 1, 1) := by decide +kernel
theorem dJ1_indexOf_4cfef_31 : decode cJ1_indexOf_4cfef 31 = .ok (.iload_n 2, 1) := by decide +kernel
theorem dJ1_indexOf_4cfef_32 : decode cJ1_indexOf_4cfef 32 = .ok (.iload_n 3, 1) := by decide +kernel
theorem dJ1_indexOf_4cfef_33 : decode cJ1_indexOf_4cfef 33 = .ok (.invokestatic 95, 3) := by decide +kernel
theorem dJ1_indexOf_4cfef_36 : decode cJ1_indexOf_4cfef 36 = .ok (.ireturn, 1) := by decide +kernel
noncomputable def f_J1_indexOf_4cfef (w : Nat) (M : ZMem) (x1 : Int32) (x2 : Int32) (x3 : Int32) : Option Int32 := zbind (f_J1_canEncode_9a6ad M x1) (fun r_1 => if r_1 = (zI 0) then some (zI (-1)) else zbnd (if x2 < (zI 0) then (zI 0) else x2) (fun x2_14 => zbnd (if (zI (zLen.getD w 0)) < x3 then (zI (zLen.getD w 0)) else x3) (fun x3_21 => if x2_14 < x3_21 then zbind (f_J1_indexOfChar_4cfef w M x1 x2_14 x3_21) (fun r_33 => some r_33) else some (zI (-1)))))
set_option maxRecDepth 100000 in
set_option maxHeartbeats 4000000 in
theorem c_J1_indexOf_4cfef {ly : List ZEnt} (E : ZEv) (w : Nat) (hw : w < 2) (M : ZMem) (x1 : Int32) (x2 : Int32) (x3 : Int32) (K : Int32 → Prop) (hk : zOk (f_J1_indexOf_4cfef w M x1 x2 x3) K) : zCon ly E yJ1_indexOf_4cfef cJ1_indexOf_4cfef 4 (some .int) 1 [zrf E (1002 + w), .int x1, .int x2, .int x3] M (zRp M K) := by
  refine zcon_of (L0 := [(0, zrf E (1002 + w)), (1, .int x1), (2, .int x2), (3, .int x3)]) (by decide) rfl (Nat.le_of_ble_eq_true rfl) (fun G h => ?_)
  have h : zRu ly E G (zRp M K) cJ1_indexOf_4cfef RJ1 4 (some .int) 1 := h
  unfold f_J1_indexOf_4cfef at hk
  refine zr_iload_n h dJ1_indexOf_4cfef_0 1 rfl rfl ?_
  refine zr_callSp h zcw_J1_88 (by decide) (c_J1_canEncode_9a6ad E M x1 _ (zOk_bind hk)) rfl rfl (Nat.le_of_ble_eq_true rfl) dJ1_indexOf_4cfef_1 (fun r_1 hk => ?_)
  refine zr_if_ne (tgt := 9) h dJ1_indexOf_4cfef_4 (by decide) (fun c => ?_) (fun c => ?_)
  · have hk := zOk_t c hk
    refine zr_iconst (v := (zI (-1))) h dJ1_indexOf_4cfef_7 rfl ?_
    have hk := zOk_some hk
    exact zr_iret h dJ1_indexOf_4cfef_8 ⟨rfl, _, rfl, hk⟩
  · have hk := zOk_f c hk
    refine zr_iload_n h dJ1_indexOf_4cfef_9 2 rfl rfl ?_
    refine zr_iconst (v := (zI 0)) h dJ1_indexOf_4cfef_10 rfl ?_
    refine zr_mmax h (zm_21 _ (List.mem_of_getElem? (i := 9) rfl)) (zm_13 _ (List.mem_of_getElem? (i := 10) rfl)) (zm_12 _ (List.mem_of_getElem? (i := 12) rfl)) (zm_13 _ (List.mem_of_getElem? (i := 11) rfl)) (Nat.le_of_ble_eq_true rfl) dJ1_indexOf_4cfef_11 ?_
    refine zr_topi (fun x2_14 ex => ?_)
    have hk := zOk_bnd ex hk
    refine zr_istore_n (L' := [(0, zrf E (1002 + w)), (1, .int x1), (2, .int x2_14), (3, .int x3)]) h [1, 2, 0, 3] dJ1_indexOf_4cfef_14 rfl (by decide) rfl ?_
    refine zr_iload_n h dJ1_indexOf_4cfef_15 3 rfl rfl ?_
    refine zr_aload_n h dJ1_indexOf_4cfef_16 0 rfl rfl ?_
    refine zr_tlen h hw dJ1_indexOf_4cfef_17 ?_
    refine zr_mmin h (zm_21 _ (List.mem_of_getElem? (i := 10) rfl)) (zm_12 _ (List.mem_of_getElem? (i := 11) rfl)) (zm_12 _ (List.mem_of_getElem? (i := 12) rfl)) (zm_12 _ (List.mem_of_getElem? (i := 13) rfl)) (Nat.le_of_ble_eq_true rfl) dJ1_indexOf_4cfef_18 ?_
    refine zr_topi (fun x3_21 ex => ?_)
    have hk := zOk_bnd ex hk
    refine zr_istore_n (L' := [(0, zrf E (1002 + w)), (1, .int x1), (2, .int x2_14), (3, .int x3_21)]) h [1, 2, 3, 0] dJ1_indexOf_4cfef_21 rfl (by decide) rfl ?_
    refine zr_iload_n h dJ1_indexOf_4cfef_22 2 rfl rfl ?_
    refine zr_iload_n h dJ1_indexOf_4cfef_23 3 rfl rfl ?_
    refine zr_icmp_lt (tgt := 29) h dJ1_indexOf_4cfef_24 (by decide) (fun c => ?_) (fun c => ?_)
    · have hk := zOk_t c hk
      refine zr_aload_n h dJ1_indexOf_4cfef_29 0 rfl rfl ?_
      refine zr_iload_n h dJ1_indexOf_4cfef_30 1 rfl rfl ?_
      refine zr_iload_n h dJ1_indexOf_4cfef_31 2 rfl rfl ?_
      refine zr_iload_n h dJ1_indexOf_4cfef_32 3 rfl rfl ?_
      refine zr_callSp h zcw_J1_95 (by decide) (c_J1_indexOfChar_4cfef E w hw M x1 x2_14 x3_21 _ (zOk_bind hk)) rfl rfl (Nat.le_of_ble_eq_true rfl) dJ1_indexOf_4cfef_33 (fun r_33 hk => ?_)
      have hk := zOk_some hk
      exact zr_iret h dJ1_indexOf_4cfef_36 ⟨rfl, _, rfl, hk⟩
    · have hk := zOk_f c hk
      refine zr_iconst (v := (zI (-1))) h dJ1_indexOf_4cfef_27 rfl ?_
      have hk := zOk_some hk
      exact zr_iret h dJ1_indexOf_4cfef_28 ⟨rfl, _, rfl, hk⟩
theorem dJ0_indexOf_7cf53_0 : decode cJ0_indexOf_7cf53 0 = .ok (.aload_n 0, 1) := by decide +kernel
theorem dJ0_indexOf_7cf53_1 : decode cJ0_indexOf_7cf53 1 = .ok (.invokevirtual 492, 3) := by decide +kernel
theorem dJ0_indexOf_7cf53_4 : decode cJ0_indexOf_7cf53 4 = .ok (.ifCond .eq 19, 3) := by decide +kernel
theorem dJ0_indexOf_7cf53_7 : decode cJ0_indexOf_7cf53 7 = .ok (.aload_n 0, 1) := by decide +kernel
theorem dJ0_indexOf_7cf53_8 : decode cJ0_indexOf_7cf53 8 = .ok (.getfield 9, 3) := by decide +kernel
theorem dJ0_indexOf_7cf53_11 : decode cJ0_indexOf_7cf53 11 = .ok (.iload_n 1, 1) := by decide +kernel
theorem dJ0_indexOf_7cf53_12 : decode cJ0_indexOf_7cf53 12 = .ok (.iload_n 2, 1) := by decide +kernel
theorem dJ0_indexOf_7cf53_13 : decode cJ0_indexOf_7cf53 13 = .ok (.aload_n 0, 1) := by decide +kernel
theorem dJ0_indexOf_7cf53_14 : decode cJ0_indexOf_7cf53 14 = .ok (.invokevirtual 505, 3) := by decide +kernel
theorem dJ0_indexOf_7cf53_17 : decode cJ0_indexOf_7cf53 17 = .ok (.invokestatic 637, 3) := by decide +kernel
theorem dJ0_indexOf_7cf53_20 : decode cJ0_indexOf_7cf53 20 = .ok (.goto 16, 3) := by decide +kernel
theorem dJ0_indexOf_7cf53_23 : decode cJ0_indexOf_7cf53 23 = .ok (.aload_n 0, 1) := by decide +kernel
theorem dJ0_indexOf_7cf53_24 : decode cJ0_indexOf_7cf53 24 = .ok (.getfield 9, 3) := by decide +kernel
theorem dJ0_indexOf_7cf53_27 : decode cJ0_indexOf_7cf53 27 = .ok (.iload_n 1, 1) := by decide +kernel
theorem dJ0_indexOf_7cf53_28 : decode cJ0_indexOf_7cf53 28 = .ok (.iload_n 2, 1) := by decide +kernel
theorem dJ0_indexOf_7cf53_29 : decode cJ0_indexOf_7cf53 29 = .ok (.aload_n 0, 1) := by decide +kernel
theorem dJ0_indexOf_7cf53_30 : decode cJ0_indexOf_7cf53 30 = .ok (.invokevirtual 505, 3) := by decide +kernel
theorem dJ0_indexOf_7cf53_33 : decode cJ0_indexOf_7cf53 33 = .ok (.invokestatic 640, 3) := by decide +kernel
theorem dJ0_indexOf_7cf53_36 : decode cJ0_indexOf_7cf53 36 = .ok (.ireturn, 1) := by decide +kernel
noncomputable def f_J0_indexOf_7cf53 (w : Nat) (M : ZMem) (x1 : Int32) (x2 : Int32) : Option Int32 := zbind (f_J0_isLatin1_aae02 w M) (fun r_1 => if r_1 = (zI 0) then none else zbind (f_J0_length_8abf5 w M) (fun r_14 => zbind (f_J1_indexOf_4cfef w M x1 x2 r_14) (fun r_17 => some r_17)))
set_option maxRecDepth 100000 in
set_option maxHeartbeats 4000000 in
theorem c_J0_indexOf_7cf53 {ly : List ZEnt} (E : ZEv) (w : Nat) (hw : w < 2) (M : ZMem) (x1 : Int32) (x2 : Int32) (K : Int32 → Prop) (hk : zOk (f_J0_indexOf_7cf53 w M x1 x2) K) : zCon ly E yJ0_indexOf_7cf53 cJ0_indexOf_7cf53 3 (some .int) 2 [zrf E (1000 + w), .int x1, .int x2] M (zRp M K) := by
  refine zcon_of (L0 := [(0, zrf E (1000 + w)), (1, .int x1), (2, .int x2)]) (by decide) rfl (Nat.le_of_ble_eq_true rfl) (fun G h => ?_)
  have h : zRu ly E G (zRp M K) cJ0_indexOf_7cf53 RJ0 3 (some .int) 2 := h
  unfold f_J0_indexOf_7cf53 at hk
  refine zr_aload_n h dJ0_indexOf_7cf53_0 0 rfl rfl ?_
  refine zr_callT (w := w) h hw (List.forall_mem_cons.mpr ⟨(zm_20 _ (List.mem_of_getElem? (i := 15) rfl)), (List.forall_mem_cons.mpr ⟨(zm_20 _ (List.mem_of_getElem? (i := 16) rfl)), (List.forall_mem_cons.mpr ⟨(zm_20 _ (List.mem_of_getElem? (i := 17) rfl)), (List.forall_mem_cons.mpr ⟨(zm_20 _ (List.mem_of_getElem? (i := 8) rfl)), (List.forall_mem_cons.mpr ⟨(zm_20 _ (List.mem_of_getElem? (i := 18) rfl)), (fun _ h => absurd h List.not_mem_nil)⟩)⟩)⟩)⟩)⟩) ⟨rfl, by decide, by decide, (by decide +kernel : (parseMethodDescriptor yJ0_isLatin1_aae02.desc).map (fun d => d.parameters.length) = some 0)⟩ (by decide) (by decide) (c_J0_isLatin1_aae02 E w hw M _ (zOk_bind hk)) rfl rfl (Nat.le_of_ble_eq_true rfl) dJ0_indexOf_7cf53_1 (fun r_1 hk => ?_)
  refine zr_if_eq (tgt := 23) h dJ0_indexOf_7cf53_4 (by decide) (fun c => ?_) (fun c => ?_)
  · have hk := zOk_t c hk
    exact absurd hk zOk_none
  · have hk := zOk_f c hk
    refine zr_aload_n h dJ0_indexOf_7cf53_7 0 rfl rfl ?_
    refine zr_tval h hw (zm_20 _ (List.mem_of_getElem? (i := 14) rfl)) dJ0_indexOf_7cf53_8 ?_
    refine zr_iload_n h dJ0_indexOf_7cf53_11 1 rfl rfl ?_
    refine zr_iload_n h dJ0_indexOf_7cf53_12 2 rfl rfl ?_
    refine zr_aload_n h dJ0_indexOf_7cf53_13 0 rfl rfl ?_
    refine zr_callT (w := w) h hw (List.forall_mem_cons.mpr ⟨(zm_20 _ (List.mem_of_getElem? (i := 21) rfl)), (List.forall_mem_cons.mpr ⟨(zm_20 _ (List.mem_of_getElem? (i := 22) rfl)), (List.forall_mem_cons.mpr ⟨(zm_20 _ (List.mem_of_getElem? (i := 23) rfl)), (List.forall_mem_cons.mpr ⟨(zm_20 _ (List.mem_of_getElem? (i := 8) rfl)), (List.forall_mem_cons.mpr ⟨(zm_21 _ (List.mem_of_getElem? (i := 0) rfl)), (fun _ h => absurd h List.not_mem_nil)⟩)⟩)⟩)⟩)⟩) ⟨rfl, by decide, by decide, (by decide +kernel : (parseMethodDescriptor yJ0_length_8abf5.desc).map (fun d => d.parameters.length) = some 0)⟩ (by decide) (by decide) (c_J0_length_8abf5 E w hw M _ (zOk_bind hk)) rfl rfl (Nat.le_of_ble_eq_true rfl) dJ0_indexOf_7cf53_14 (fun r_14 hk => ?_)
    refine zr_callSp h zcw_J0_637 (by decide) (c_J1_indexOf_4cfef E w hw M x1 x2 r_14 _ (zOk_bind hk)) rfl rfl (Nat.le_of_ble_eq_true rfl) dJ0_indexOf_7cf53_17 (fun r_17 hk => ?_)
    refine zr_goto (tgt := 36) h dJ0_indexOf_7cf53_20 (by decide) ?_
    have hk := zOk_some hk
    exact zr_iret h dJ0_indexOf_7cf53_36 ⟨rfl, _, rfl, hk⟩
theorem dJ0_indexOf_0f7a4_0 : decode cJ0_indexOf_0f7a4 0 = .ok (.aload_n 0, 1) := by decide +kernel
theorem dJ0_indexOf_0f7a4_1 : decode cJ0_indexOf_0f7a4 1 = .ok (.iload_n 1, 1) := by decide +kernel
theorem dJ0_indexOf_0f7a4_2 : decode cJ0_indexOf_0f7a4 2 = .ok (.iconst 0, 1) := by decide +kernel
theorem dJ0_indexOf_0f7a4_3 : decode cJ0_indexOf_0f7a4 3 = .ok (.invokevirtual 633, 3) := by decide +kernel
theorem dJ0_indexOf_0f7a4_6 : decode cJ0_indexOf_0f7a4 6 = .ok (.ireturn, 1) := by decide +kernel
noncomputable def f_J0_indexOf_0f7a4 (w : Nat) (M : ZMem) (x1 : Int32) : Option Int32 := zbind (f_J0_indexOf_7cf53 w M x1 (zI 0)) (fun r_3 => some r_3)
set_option maxRecDepth 100000 in
set_option maxHeartbeats 4000000 in
theorem c_J0_indexOf_0f7a4 {ly : List ZEnt} (E : ZEv) (w : Nat) (hw : w < 2) (M : ZMem) (x1 : Int32) (K : Int32 → Prop) (hk : zOk (f_J0_indexOf_0f7a4 w M x1) K) : zCon ly E yJ0_indexOf_0f7a4 cJ0_indexOf_0f7a4 2 (some .int) 3 [zrf E (1000 + w), .int x1] M (zRp M K) := by
  refine zcon_of (L0 := [(0, zrf E (1000 + w)), (1, .int x1)]) (by decide) rfl (Nat.le_of_ble_eq_true rfl) (fun G h => ?_)
  have h : zRu ly E G (zRp M K) cJ0_indexOf_0f7a4 RJ0 2 (some .int) 3 := h
  unfold f_J0_indexOf_0f7a4 at hk
  refine zr_aload_n h dJ0_indexOf_0f7a4_0 0 rfl rfl ?_
  refine zr_iload_n h dJ0_indexOf_0f7a4_1 1 rfl rfl ?_
  refine zr_iconst (v := (zI 0)) h dJ0_indexOf_0f7a4_2 rfl ?_
  refine zr_callT (w := w) h hw (List.forall_mem_cons.mpr ⟨(zm_20 _ (List.mem_of_getElem? (i := 10) rfl)), (List.forall_mem_cons.mpr ⟨(zm_20 _ (List.mem_of_getElem? (i := 11) rfl)), (List.forall_mem_cons.mpr ⟨(zm_20 _ (List.mem_of_getElem? (i := 12) rfl)), (List.forall_mem_cons.mpr ⟨(zm_20 _ (List.mem_of_getElem? (i := 8) rfl)), (List.forall_mem_cons.mpr ⟨(zm_20 _ (List.mem_of_getElem? (i := 13) rfl)), (fun _ h => absurd h List.not_mem_nil)⟩)⟩)⟩)⟩)⟩) ⟨rfl, by decide, by decide, (by decide +kernel : (parseMethodDescriptor yJ0_indexOf_7cf53.desc).map (fun d => d.parameters.length) = some 2)⟩ (by decide) (by decide) (c_J0_indexOf_7cf53 E w hw M x1 (zI 0) _ (zOk_bind hk)) rfl rfl (Nat.le_of_ble_eq_true rfl) dJ0_indexOf_0f7a4_3 (fun r_3 hk => ?_)
  have hk := zOk_some hk
  exact zr_iret h dJ0_indexOf_0f7a4_6 ⟨rfl, _, rfl, hk⟩
theorem dJ7_fill_d0a16_0 : decode cJ7_fill_d0a16 0 = .ok (.iconst 0, 1) := by decide +kernel
theorem dJ7_fill_d0a16_1 : decode cJ7_fill_d0a16 1 = .ok (.istore_n 3, 1) := by decide +kernel
theorem dJ7_fill_d0a16_2 : decode cJ7_fill_d0a16 2 = .ok (.aload_n 0, 1) := by decide +kernel
theorem dJ7_fill_d0a16_3 : decode cJ7_fill_d0a16 3 = .ok (.arraylength, 1) := by decide +kernel
theorem dJ7_fill_d0a16_4 : decode cJ7_fill_d0a16 4 = .ok (.istore 4, 2) := by decide +kernel
theorem dJ7_fill_d0a16_6 : decode cJ7_fill_d0a16 6 = .ok (.iload_n 3, 1) := by decide +kernel
theorem dJ7_fill_d0a16_7 : decode cJ7_fill_d0a16 7 = .ok (.iload 4, 2) := by decide +kernel
theorem dJ7_fill_d0a16_9 : decode cJ7_fill_d0a16 9 = .ok (.if_icmp .ge 13, 3) := by decide +kernel
theorem dJ7_fill_d0a16_12 : decode cJ7_fill_d0a16 12 = .ok (.aload_n 0, 1) := by decide +kernel
theorem dJ7_fill_d0a16_13 : decode cJ7_fill_d0a16 13 = .ok (.iload_n 3, 1) := by decide +kernel
theorem dJ7_fill_d0a16_14 : decode cJ7_fill_d0a16 14 = .ok (.lload_n 1, 1) := by decide +kernel
theorem dJ7_fill_d0a16_15 : decode cJ7_fill_d0a16 15 = .ok (.lastore, 1) := by decide +kernel
theorem dJ7_fill_d0a16_16 : decode cJ7_fill_d0a16 16 = .ok (.iinc 3 1, 3) := by decide +kernel
theorem dJ7_fill_d0a16_19 : decode cJ7_fill_d0a16 19 = .ok (.goto (-13), 3) := by decide +kernel
theorem dJ7_fill_d0a16_22 : decode cJ7_fill_d0a16 22 = .ok (.return_, 1) := by decide +kernel
noncomputable def f_J7_fill_d0a16_L6 (q0 : Nat) (n0 : Nat) (x1 : Int64) (x4 : Int32) (s : (ZMem × Int32)) : Option ((ZMem × Int32) ⊕ (ZMem)) := if x4 ≤ s.2 then some (.inr s.1) else zchk (zin s.2 n0) (zbnd (zstL s.1 q0 (zix s.2) x1) (fun M_15 => zbnd (s.2 + (zI 1)) (fun x3_16 => some (.inl (M_15, x3_16)))))
set_option maxRecDepth 100000 in
set_option maxHeartbeats 4000000 in
theorem w_J7_fill_d0a16_L6 {ly : List ZEnt} {E : ZEv} {G : ZG} {K : ZMem → Prop} (h : zRu ly E G (zRv K) cJ7_fill_d0a16 RJ7 5 none 0) (q0 : Nat) (n0 : Nat) (hq0 : ly[q0]? = some (.inl (3, n0))) (x1 : Int64) (x4 : Int32) (s : (ZMem × Int32)) (hk : zOk (zloop (f_J7_fill_d0a16_L6 q0 n0 x1 x4) s) (fun e => G e 22 [] [])) : G s.1 6 [(0, zrf E q0), (1, .long x1), (3, .int s.2), (4, .int x4)] [] := by
  refine zloop_walk (P := fun s => G s.1 6 [(0, zrf E q0), (1, .long x1), (3, .int s.2), (4, .int x4)] []) hk (fun s hk => ?_)
  unfold f_J7_fill_d0a16_L6 at hk
  refine zr_iload_n h dJ7_fill_d0a16_6 2 rfl rfl ?_
  refine zr_iload h dJ7_fill_d0a16_7 3 rfl ?_
  refine zr_icmp_ge (tgt := 22) h dJ7_fill_d0a16_9 (by decide) (fun c => ?_) (fun c => ?_)
  · have hk := zOk_t c hk
    have hk := zOk_some hk
    exact zr_weak h [] rfl hk
  · have hk := zOk_f c hk
    refine zr_aload_n h dJ7_fill_d0a16_12 0 rfl rfl ?_
    refine zr_iload_n h dJ7_fill_d0a16_13 2 rfl rfl ?_
    refine zr_lload_n h dJ7_fill_d0a16_14 1 rfl rfl ?_
    have hb := zOk_chk hk
    have hk := hb.2
    refine zr_last h hq0 hb.1 dJ7_fill_d0a16_15 ?_
    refine zr_mem (fun M_15 eM => ?_)
    have hk := zOk_bnd eM hk
    obtain ⟨x3_16, ex⟩ : ∃ y : Int32, y = s.2 + (zI 1) := ⟨_, rfl⟩
    have hk := zOk_bnd ex hk
    refine zr_iinc (v := x3_16) (L' := [(0, zrf E q0), (1, .long x1), (3, .int x3_16), (4, .int x4)]) h 2 [1, 2, 0, 3] dJ7_fill_d0a16_16 rfl (by rw [ex]; rfl) (by decide) rfl ?_
    refine zr_goto (tgt := 6) h dJ7_fill_d0a16_19 (by decide) ?_
    have hk := zOk_some hk
    exact zr_weak h [0, 1, 2, 3] rfl hk
noncomputable def f_J7_fill_d0a16 (q0 : Nat) (n0 : Nat) (M : ZMem) (x1 : Int64) : Option ZMem := zbnd (zI n0) (fun x4_4 => zbind (zloop (f_J7_fill_d0a16_L6 q0 n0 x1 x4_4) (M, (zI 0))) (fun e6 => some e6))
set_option maxRecDepth 100000 in
set_option maxHeartbeats 4000000 in
theorem c_J7_fill_d0a16 {ly : List ZEnt} (E : ZEv) (q0 : Nat) (n0 : Nat) (hq0 : ly[q0]? = some (.inl (3, n0))) (M : ZMem) (x1 : Int64) (K : ZMem → Prop) (hk : zOk (f_J7_fill_d0a16 q0 n0 M x1) K) : zCon ly E yJ7_fill_d0a16 cJ7_fill_d0a16 5 none 0 [zrf E q0, .long x1] M (zRv K) := by
  refine zcon_of (L0 := [(0, zrf E q0), (1, .long x1)]) (by decide) rfl (Nat.le_of_ble_eq_true rfl) (fun G h => ?_)
  have h : zRu ly E G (zRv K) cJ7_fill_d0a16 RJ7 5 none 0 := h
  unfold f_J7_fill_d0a16 at hk
  refine zr_iconst (v := (zI 0)) h dJ7_fill_d0a16_0 rfl ?_
  refine zr_istore_n (L' := [(0, zrf E q0), (1, .long x1), (3, .int (zI 0))]) h [1, 2, 0] dJ7_fill_d0a16_1 rfl (by decide) rfl ?_
  refine zr_aload_n h dJ7_fill_d0a16_2 0 rfl rfl ?_
  refine zr_alen h (by decide) hq0 dJ7_fill_d0a16_3 ?_
  refine zr_topi (fun x4_4 ex => ?_)
  have hk := zOk_bnd ex hk
  refine zr_istore (L' := [(0, zrf E q0), (1, .long x1), (3, .int (zI 0)), (4, .int x4_4)]) h [1, 2, 3, 0] dJ7_fill_d0a16_4 (by decide) rfl ?_
  refine w_J7_fill_d0a16_L6 h q0 n0 hq0 x1 x4_4 (M, (zI 0)) (zOk_mono (zOk_bind hk) (fun e6 hk => ?_))
  have hk := zOk_some hk
  exact zr_vret h dJ7_fill_d0a16_22 ⟨rfl, hk⟩
theorem dJ3_checkIndex_8e157_0 : decode cJ3_checkIndex_8e157 0 = .ok (.iload_n 0, 1) := by decide +kernel
theorem dJ3_checkIndex_8e157_1 : decode cJ3_checkIndex_8e157 1 = .ok (.ifCond .lt 8, 3) := by decide +kernel
theorem dJ3_checkIndex_8e157_4 : decode cJ3_checkIndex_8e157 4 = .ok (.iload_n 0, 1) := by decide +kernel
theorem dJ3_checkIndex_8e157_5 : decode cJ3_checkIndex_8e157 5 = .ok (.iload_n 1, 1) := by decide +kernel
theorem dJ3_checkIndex_8e157_6 : decode cJ3_checkIndex_8e157 6 = .ok (.if_icmp .lt 10, 3) := by decide +kernel
theorem dJ3_checkIndex_8e157_9 : decode cJ3_checkIndex_8e157 9 = .ok (.aload_n 2, 1) := by decide +kernel
theorem dJ3_checkIndex_8e157_10 : decode cJ3_checkIndex_8e157 10 = .ok (.iload_n 0, 1) := by decide +kernel
theorem dJ3_checkIndex_8e157_11 : decode cJ3_checkIndex_8e157 11 = .ok (.iload_n 1, 1) := by decide +kernel
theorem dJ3_checkIndex_8e157_12 : decode cJ3_checkIndex_8e157 12 = .ok (.invokestatic 95, 3) := by decide +kernel
theorem dJ3_checkIndex_8e157_15 : decode cJ3_checkIndex_8e157 15 = .ok (.athrow, 1) := by decide +kernel
theorem dJ3_checkIndex_8e157_16 : decode cJ3_checkIndex_8e157 16 = .ok (.iload_n 0, 1) := by decide +kernel
theorem dJ3_checkIndex_8e157_17 : decode cJ3_checkIndex_8e157 17 = .ok (.ireturn, 1) := by decide +kernel
noncomputable def f_J3_checkIndex_8e157 (M : ZMem) (x0 : Int32) (x1 : Int32) : Option Int32 := if x0 < (zI 0) then none else if x0 < x1 then some x0 else none
set_option maxRecDepth 100000 in
set_option maxHeartbeats 4000000 in
theorem c_J3_checkIndex_8e157 {ly : List ZEnt} (E : ZEv) (M : ZMem) (x0 : Int32) (x1 : Int32) (K : Int32 → Prop) (hk : zOk (f_J3_checkIndex_8e157 M x0 x1) K) : zCon ly E yJ3_checkIndex_8e157 cJ3_checkIndex_8e157 3 (some .int) 0 [.int x0, .int x1, zfm E] M (zRp M K) := by
  refine zcon_of (L0 := [(0, .int x0), (1, .int x1), (2, zfm E)]) (by decide) rfl (zfm_len E _ _) (fun G h => ?_)
  have h : zRu ly E G (zRp M K) cJ3_checkIndex_8e157 RJ3 3 (some .int) 0 := h
  unfold f_J3_checkIndex_8e157 at hk
  refine zr_iload_n h dJ3_checkIndex_8e157_0 0 rfl rfl ?_
  refine zr_if_lt (tgt := 9) h dJ3_checkIndex_8e157_1 (by decide) (fun c => ?_) (fun c => ?_)
  · have hk := zOk_t c hk
    exact absurd hk zOk_none
  · have hk := zOk_f c hk
    refine zr_iload_n h dJ3_checkIndex_8e157_4 0 rfl rfl ?_
    refine zr_iload_n h dJ3_checkIndex_8e157_5 1 rfl rfl ?_
    refine zr_icmp_lt (tgt := 16) h dJ3_checkIndex_8e157_6 (by decide) (fun c => ?_) (fun c => ?_)
    · have hk := zOk_t c hk
      refine zr_iload_n h dJ3_checkIndex_8e157_16 0 rfl rfl ?_
      have hk := zOk_some hk
      exact zr_iret h dJ3_checkIndex_8e157_17 ⟨rfl, _, rfl, hk⟩
    · have hk := zOk_f c hk
      exact absurd hk zOk_none
theorem dJ0_checkIndex_df160_0 : decode cJ0_checkIndex_df160 0 = .ok (.iload_n 0, 1) := by decide +kernel
theorem dJ0_checkIndex_df160_1 : decode cJ0_checkIndex_df160 1 = .ok (.iload_n 1, 1) := by decide +kernel
theorem dJ0_checkIndex_df160_2 : decode cJ0_checkIndex_df160 2 = .ok (.getstatic 1053, 3) := by decide +kernel
theorem dJ0_checkIndex_df160_5 : decode cJ0_checkIndex_df160 5 = .ok (.invokestatic 1059, 3) := by decide +kernel
theorem dJ0_checkIndex_df160_8 : decode cJ0_checkIndex_df160 8 = .ok (.pop, 1) := by decide +kernel
theorem dJ0_checkIndex_df160_9 : decode cJ0_checkIndex_df160 9 = .ok (.return_, 1) := by decide +kernel
noncomputable def f_J0_checkIndex_df160 (M : ZMem) (x0 : Int32) (x1 : Int32) : Option Unit := zbind (f_J3_checkIndex_8e157 M x0 x1) (fun r_5 => some ())
set_option maxRecDepth 100000 in
set_option maxHeartbeats 4000000 in
theorem c_J0_checkIndex_df160 {ly : List ZEnt} (E : ZEv) (M : ZMem) (x0 : Int32) (x1 : Int32) (K : Unit → Prop) (hk : zOk (f_J0_checkIndex_df160 M x0 x1) K) : zCon ly E yJ0_checkIndex_df160 cJ0_checkIndex_df160 2 none 1 [.int x0, .int x1] M (zRw M K) := by
  refine zcon_of (L0 := [(0, .int x0), (1, .int x1)]) (by decide) rfl (Nat.le_of_ble_eq_true rfl) (fun G h => ?_)
  have h : zRu ly E G (zRw M K) cJ0_checkIndex_df160 RJ0 2 none 1 := h
  unfold f_J0_checkIndex_df160 at hk
  refine zr_iload_n h dJ0_checkIndex_df160_0 0 rfl rfl ?_
  refine zr_iload_n h dJ0_checkIndex_df160_1 1 rfl rfl ?_
  refine zr_fmt h (zm_22 _ (List.mem_of_getElem? (i := 12) rfl)) dJ0_checkIndex_df160_2 ?_
  refine zr_callSp h zcw_J0_1059 (by decide) (c_J3_checkIndex_8e157 E M x0 x1 _ (zOk_bind hk)) rfl rfl (Nat.le_of_ble_eq_true rfl) dJ0_checkIndex_df160_5 (fun r_5 hk => ?_)
  refine zr_pop h dJ0_checkIndex_df160_8 rfl ?_
  have hk := zOk_some hk
  exact zr_vret h dJ0_checkIndex_df160_9 ⟨rfl, rfl, hk⟩
theorem dJ1_charAt_3b067_0 : decode cJ1_charAt_3b067 0 = .ok (.iload_n 1, 1) := by decide +kernel
theorem dJ1_charAt_3b067_1 : decode cJ1_charAt_3b067 1 = .ok (.aload_n 0, 1) := by decide +kernel
theorem dJ1_charAt_3b067_2 : decode cJ1_charAt_3b067 2 = .ok (.arraylength, 1) := by decide +kernel
theorem dJ1_charAt_3b067_3 : decode cJ1_charAt_3b067 3 = .ok (.invokestatic 9, 3) := by decide +kernel
theorem dJ1_charAt_3b067_6 : decode cJ1_charAt_3b067 6 = .ok (.aload_n 0, 1) := by decide +kernel
theorem dJ1_charAt_3b067_7 : decode cJ1_charAt_3b067 7 = .ok (.iload_n 1, 1) := by decide +kernel
theorem dJ1_charAt_3b067_8 : decode cJ1_charAt_3b067 8 = .ok (.baload, 1) := by decide +kernel
theorem dJ1_charAt_3b067_9 : decode cJ1_charAt_3b067 9 = .ok (.sipush 255, 3) := by decide +kernel
theorem dJ1_charAt_3b067_12 : decode cJ1_charAt_3b067 12 = .ok (.iand, 1) := by decide +kernel
theorem dJ1_charAt_3b067_13 : decode cJ1_charAt_3b067 13 = .ok (.i2c, 1) := by decide +kernel
theorem dJ1_charAt_3b067_14 : decode cJ1_charAt_3b067 14 = .ok (.ireturn, 1) := by decide +kernel
noncomputable def f_J1_charAt_3b067 (w : Nat) (M : ZMem) (x1 : Int32) : Option Int32 := zbind (f_J0_checkIndex_df160 M x1 (zI (zLen.getD w 0))) (fun u_3 => zchk (zin x1 (zLen.getD w 0)) (some ((((((zByt.getD w []).getD (zix x1) 0) &&& (zI 255)) : Int32).toUInt32 % 65536).toInt32)))
set_option maxRecDepth 100000 in
set_option maxHeartbeats 4000000 in
theorem c_J1_charAt_3b067 {ly : List ZEnt} (E : ZEv) (w : Nat) (hw : w < 2) (M : ZMem) (x1 : Int32) (K : Int32 → Prop) (hk : zOk (f_J1_charAt_3b067 w M x1) K) : zCon ly E yJ1_charAt_3b067 cJ1_charAt_3b067 2 (some .char) 2 [zrf E (1002 + w), .int x1] M (zRp M K) := by
  refine zcon_of (L0 := [(0, zrf E (1002 + w)), (1, .int x1)]) (by decide) rfl (Nat.le_of_ble_eq_true rfl) (fun G h => ?_)
  have h : zRu ly E G (zRp M K) cJ1_charAt_3b067 RJ1 2 (some .char) 2 := h
  unfold f_J1_charAt_3b067 at hk
  refine zr_iload_n h dJ1_charAt_3b067_0 1 rfl rfl ?_
  refine zr_aload_n h dJ1_charAt_3b067_1 0 rfl rfl ?_
  refine zr_tlen h hw dJ1_charAt_3b067_2 ?_
  refine zr_callSu h zcw_J1_9 (by decide) (c_J0_checkIndex_df160 E M x1 (zI (zLen.getD w 0)) _ (zOk_bind hk)) rfl rfl (Nat.le_of_ble_eq_true rfl) dJ1_charAt_3b067_3 (fun u_3 hk => ?_)
  refine zr_aload_n h dJ1_charAt_3b067_6 0 rfl rfl ?_
  refine zr_iload_n h dJ1_charAt_3b067_7 1 rfl rfl ?_
  have hb := zOk_chk hk
  have hk := hb.2
  refine zr_tb h hw hb.1 dJ1_charAt_3b067_8 ?_
  refine zr_sipush (v := (zI 255)) h dJ1_charAt_3b067_9 (by decide) ?_
  refine zr_iand h dJ1_charAt_3b067_12 ?_
  refine zr_i2c h dJ1_charAt_3b067_13 ?_
  have hk := zOk_some hk
  exact zr_nret h dJ1_charAt_3b067_14 (pk_nc _) ⟨rfl, _, rfl, hk⟩
theorem dJ0_charAt_5068e_0 : decode cJ0_charAt_5068e 0 = .ok (.aload_n 0, 1) := by decide +kernel
theorem dJ0_charAt_5068e_1 : decode cJ0_charAt_5068e 1 = .ok (.invokevirtual 492, 3) := by decide +kernel
theorem dJ0_charAt_5068e_4 : decode cJ0_charAt_5068e 4 = .ok (.ifCond .eq 12, 3) := by decide +kernel
theorem dJ0_charAt_5068e_7 : decode cJ0_charAt_5068e 7 = .ok (.aload_n 0, 1) := by decide +kernel
theorem dJ0_charAt_5068e_8 : decode cJ0_charAt_5068e 8 = .ok (.getfield 9, 3) := by decide +kernel
theorem dJ0_charAt_5068e_11 : decode cJ0_charAt_5068e 11 = .ok (.iload_n 1, 1) := by decide +kernel
theorem dJ0_charAt_5068e_12 : decode cJ0_charAt_5068e 12 = .ok (.invokestatic 495, 3) := by decide +kernel
theorem dJ0_charAt_5068e_15 : decode cJ0_charAt_5068e 15 = .ok (.ireturn, 1) := by decide +kernel
theorem dJ0_charAt_5068e_16 : decode cJ0_charAt_5068e 16 = .ok (.aload_n 0, 1) := by decide +kernel
theorem dJ0_charAt_5068e_17 : decode cJ0_charAt_5068e 17 = .ok (.getfield 9, 3) := by decide +kernel
theorem dJ0_charAt_5068e_20 : decode cJ0_charAt_5068e 20 = .ok (.iload_n 1, 1) := by decide +kernel
theorem dJ0_charAt_5068e_21 : decode cJ0_charAt_5068e 21 = .ok (.invokestatic 498, 3) := by decide +kernel
theorem dJ0_charAt_5068e_24 : decode cJ0_charAt_5068e 24 = .ok (.ireturn, 1) := by decide +kernel
noncomputable def f_J0_charAt_5068e (w : Nat) (M : ZMem) (x1 : Int32) : Option Int32 := zbind (f_J0_isLatin1_aae02 w M) (fun r_1 => if r_1 = (zI 0) then none else zbind (f_J1_charAt_3b067 w M x1) (fun r_12 => zchk (zisC r_12) (some r_12)))
set_option maxRecDepth 100000 in
set_option maxHeartbeats 4000000 in
theorem c_J0_charAt_5068e {ly : List ZEnt} (E : ZEv) (w : Nat) (hw : w < 2) (M : ZMem) (x1 : Int32) (K : Int32 → Prop) (hk : zOk (f_J0_charAt_5068e w M x1) K) : zCon ly E yJ0_charAt_5068e cJ0_charAt_5068e 2 (some .char) 3 [zrf E (1000 + w), .int x1] M (zRp M K) := by
  refine zcon_of (L0 := [(0, zrf E (1000 + w)), (1, .int x1)]) (by decide) rfl (Nat.le_of_ble_eq_true rfl) (fun G h => ?_)
  have h : zRu ly E G (zRp M K) cJ0_charAt_5068e RJ0 2 (some .char) 3 := h
  unfold f_J0_charAt_5068e at hk
  refine zr_aload_n h dJ0_charAt_5068e_0 0 rfl rfl ?_
  refine zr_callT (w := w) h hw (List.forall_mem_cons.mpr ⟨(zm_20 _ (List.mem_of_getElem? (i := 15) rfl)), (List.forall_mem_cons.mpr ⟨(zm_20 _ (List.mem_of_getElem? (i := 16) rfl)), (List.forall_mem_cons.mpr ⟨(zm_20 _ (List.mem_of_getElem? (i := 17) rfl)), (List.forall_mem_cons.mpr ⟨(zm_20 _ (List.mem_of_getElem? (i := 8) rfl)), (List.forall_mem_cons.mpr ⟨(zm_20 _ (List.mem_of_getElem? (i := 18) rfl)), (fun _ h => absurd h List.not_mem_nil)⟩)⟩)⟩)⟩)⟩) ⟨rfl, by decide, by decide, (by decide +kernel : (parseMethodDescriptor yJ0_isLatin1_aae02.desc).map (fun d => d.parameters.length) = some 0)⟩ (by decide) (by decide) (c_J0_isLatin1_aae02 E w hw M _ (zOk_bind hk)) rfl rfl (Nat.le_of_ble_eq_true rfl) dJ0_charAt_5068e_1 (fun r_1 hk => ?_)
  refine zr_if_eq (tgt := 16) h dJ0_charAt_5068e_4 (by decide) (fun c => ?_) (fun c => ?_)
  · have hk := zOk_t c hk
    exact absurd hk zOk_none
  · have hk := zOk_f c hk
    refine zr_aload_n h dJ0_charAt_5068e_7 0 rfl rfl ?_
    refine zr_tval h hw (zm_20 _ (List.mem_of_getElem? (i := 14) rfl)) dJ0_charAt_5068e_8 ?_
    refine zr_iload_n h dJ0_charAt_5068e_11 1 rfl rfl ?_
    refine zr_callSp h zcw_J0_495 (by decide) (c_J1_charAt_3b067 E w hw M x1 _ (zOk_bind hk)) rfl rfl (Nat.le_of_ble_eq_true rfl) dJ0_charAt_5068e_12 (fun r_12 hk => ?_)
    have hb := zOk_chk hk
    have hk := hb.2
    have hk := zOk_some hk
    exact zr_nret h dJ0_charAt_5068e_15 (zisC_of hb.1) ⟨rfl, _, rfl, hk⟩
theorem dJ6_numberOfTrailingZeros_0f7a4_0 : decode cJ6_numberOfTrailingZeros_0f7a4 0 = .ok (.iload_n 0, 1) := by decide +kernel
theorem dJ6_numberOfTrailingZeros_0f7a4_1 : decode cJ6_numberOfTrailingZeros_0f7a4 1 = .ok (.iconst (-1), 1) := by decide +kernel
theorem dJ6_numberOfTrailingZeros_0f7a4_2 : decode cJ6_numberOfTrailingZeros_0f7a4 2 = .ok (.ixor, 1) := by decide +kernel
theorem dJ6_numberOfTrailingZeros_0f7a4_3 : decode cJ6_numberOfTrailingZeros_0f7a4 3 = .ok (.iload_n 0, 1) := by decide +kernel
theorem dJ6_numberOfTrailingZeros_0f7a4_4 : decode cJ6_numberOfTrailingZeros_0f7a4 4 = .ok (.iconst 1, 1) := by decide +kernel
theorem dJ6_numberOfTrailingZeros_0f7a4_5 : decode cJ6_numberOfTrailingZeros_0f7a4 5 = .ok (.isub, 1) := by decide +kernel
theorem dJ6_numberOfTrailingZeros_0f7a4_6 : decode cJ6_numberOfTrailingZeros_0f7a4 6 = .ok (.iand, 1) := by decide +kernel
theorem dJ6_numberOfTrailingZeros_0f7a4_7 : decode cJ6_numberOfTrailingZeros_0f7a4 7 = .ok (.istore_n 0, 1) := by decide +kernel
theorem dJ6_numberOfTrailingZeros_0f7a4_8 : decode cJ6_numberOfTrailingZeros_0f7a4 8 = .ok (.iload_n 0, 1) := by decide +kernel
theorem dJ6_numberOfTrailingZeros_0f7a4_9 : decode cJ6_numberOfTrailingZeros_0f7a4 9 = .ok (.ifCond .gt 8, 3) := by decide +kernel
theorem dJ6_numberOfTrailingZeros_0f7a4_12 : decode cJ6_numberOfTrailingZeros_0f7a4 12 = .ok (.iload_n 0, 1) := by decide +kernel
theorem dJ6_numberOfTrailingZeros_0f7a4_13 : decode cJ6_numberOfTrailingZeros_0f7a4 13 = .ok (.bipush 32, 2) := by decide +kernel
theorem dJ6_numberOfTrailingZeros_0f7a4_15 : decode cJ6_numberOfTrailingZeros_0f7a4 15 = .ok (.iand, 1) := by decide +kernel
theorem dJ6_numberOfTrailingZeros_0f7a4_16 : decode cJ6_numberOfTrailingZeros_0f7a4 16 = .ok (.ireturn, 1) := by decide +kernel
theorem dJ6_numberOfTrailingZeros_0f7a4_17 : decode cJ6_numberOfTrailingZeros_0f7a4 17 = .ok (.iconst 1, 1) := by decide +kernel
theorem dJ6_numberOfTrailingZeros_0f7a4_18 : decode cJ6_numberOfTrailingZeros_0f7a4 18 = .ok (.istore_n 1, 1) := by decide +kernel
theorem dJ6_numberOfTrailingZeros_0f7a4_19 : decode cJ6_numberOfTrailingZeros_0f7a4 19 = .ok (.iload_n 0, 1) := by decide +kernel
theorem dJ6_numberOfTrailingZeros_0f7a4_20 : decode cJ6_numberOfTrailingZeros_0f7a4 20 = .ok (.ldc_w 264, 3) := by decide +kernel
theorem dJ6_numberOfTrailingZeros_0f7a4_23 : decode cJ6_numberOfTrailingZeros_0f7a4 23 = .ok (.if_icmp .le 11, 3) := by decide +kernel
theorem dJ6_numberOfTrailingZeros_0f7a4_26 : decode cJ6_numberOfTrailingZeros_0f7a4 26 = .ok (.iinc 1 16, 3) := by decide +kernel
theorem dJ6_numberOfTrailingZeros_0f7a4_29 : decode cJ6_numberOfTrailingZeros_0f7a4 29 = .ok (.iload_n 0, 1) := by decide +kernel
theorem dJ6_numberOfTrailingZeros_0f7a4_30 : decode cJ6_numberOfTrailingZeros_0f7a4 30 = .ok (.bipush 16, 2) := by decide +kernel
theorem dJ6_numberOfTrailingZeros_0f7a4_32 : decode cJ6_numberOfTrailingZeros_0f7a4 32 = .ok (.iushr, 1) := by decide +kernel
theorem dJ6_numberOfTrailingZeros_0f7a4_33 : decode cJ6_numberOfTrailingZeros_0f7a4 33 = .ok (.istore_n 0, 1) := by decide +kernel
theorem dJ6_numberOfTrailingZeros_0f7a4_34 : decode cJ6_numberOfTrailingZeros_0f7a4 34 = .ok (.iload_n 0, 1) := by decide +kernel
theorem dJ6_numberOfTrailingZeros_0f7a4_35 : decode cJ6_numberOfTrailingZeros_0f7a4 35 = .ok (.sipush 256, 3) := by decide +kernel
theorem dJ6_numberOfTrailingZeros_0f7a4_38 : decode cJ6_numberOfTrailingZeros_0f7a4 38 = .ok (.if_icmp .le 11, 3) := by decide +kernel
theorem dJ6_numberOfTrailingZeros_0f7a4_41 : decode cJ6_numberOfTrailingZeros_0f7a4 41 = .ok (.iinc 1 8, 3) := by decide +kernel
theorem dJ6_numberOfTrailingZeros_0f7a4_44 : decode cJ6_numberOfTrailingZeros_0f7a4 44 = .ok (.iload_n 0, 1) := by decide +kernel
theorem dJ6_numberOfTrailingZeros_0f7a4_45 : decode cJ6_numberOfTrailingZeros_0f7a4 45 = .ok (.bipush 8, 2) := by decide +kernel
theorem dJ6_numberOfTrailingZeros_0f7a4_47 : decode cJ6_numberOfTrailingZeros_0f7a4 47 = .ok (.iushr, 1) := by decide +kernel
theorem dJ6_numberOfTrailingZeros_0f7a4_48 : decode cJ6_numberOfTrailingZeros_0f7a4 48 = .ok (.istore_n 0, 1) := by decide +kernel
theorem dJ6_numberOfTrailingZeros_0f7a4_49 : decode cJ6_numberOfTrailingZeros_0f7a4 49 = .ok (.iload_n 0, 1) := by decide +kernel
theorem dJ6_numberOfTrailingZeros_0f7a4_50 : decode cJ6_numberOfTrailingZeros_0f7a4 50 = .ok (.bipush 16, 2) := by decide +kernel
theorem dJ6_numberOfTrailingZeros_0f7a4_52 : decode cJ6_numberOfTrailingZeros_0f7a4 52 = .ok (.if_icmp .le 10, 3) := by decide +kernel
theorem dJ6_numberOfTrailingZeros_0f7a4_55 : decode cJ6_numberOfTrailingZeros_0f7a4 55 = .ok (.iinc 1 4, 3) := by decide +kernel
theorem dJ6_numberOfTrailingZeros_0f7a4_58 : decode cJ6_numberOfTrailingZeros_0f7a4 58 = .ok (.iload_n 0, 1) := by decide +kernel
theorem dJ6_numberOfTrailingZeros_0f7a4_59 : decode cJ6_numberOfTrailingZeros_0f7a4 59 = .ok (.iconst 4, 1) := by decide +kernel
theorem dJ6_numberOfTrailingZeros_0f7a4_60 : decode cJ6_numberOfTrailingZeros_0f7a4 60 = .ok (.iushr, 1) := by decide +kernel
theorem dJ6_numberOfTrailingZeros_0f7a4_61 : decode cJ6_numberOfTrailingZeros_0f7a4 61 = .ok (.istore_n 0, 1) := by decide +kernel
theorem dJ6_numberOfTrailingZeros_0f7a4_62 : decode cJ6_numberOfTrailingZeros_0f7a4 62 = .ok (.iload_n 0, 1) := by decide +kernel
theorem dJ6_numberOfTrailingZeros_0f7a4_63 : decode cJ6_numberOfTrailingZeros_0f7a4 63 = .ok (.iconst 4, 1) := by decide +kernel
theorem dJ6_numberOfTrailingZeros_0f7a4_64 : decode cJ6_numberOfTrailingZeros_0f7a4 64 = .ok (.if_icmp .le 10, 3) := by decide +kernel
theorem dJ6_numberOfTrailingZeros_0f7a4_67 : decode cJ6_numberOfTrailingZeros_0f7a4 67 = .ok (.iinc 1 2, 3) := by decide +kernel
theorem dJ6_numberOfTrailingZeros_0f7a4_70 : decode cJ6_numberOfTrailingZeros_0f7a4 70 = .ok (.iload_n 0, 1) := by decide +kernel
theorem dJ6_numberOfTrailingZeros_0f7a4_71 : decode cJ6_numberOfTrailingZeros_0f7a4 71 = .ok (.iconst 2, 1) := by decide +kernel
theorem dJ6_numberOfTrailingZeros_0f7a4_72 : decode cJ6_numberOfTrailingZeros_0f7a4 72 = .ok (.iushr, 1) := by decide +kernel
theorem dJ6_numberOfTrailingZeros_0f7a4_73 : decode cJ6_numberOfTrailingZeros_0f7a4 73 = .ok (.istore_n 0, 1) := by decide +kernel
theorem dJ6_numberOfTrailingZeros_0f7a4_74 : decode cJ6_numberOfTrailingZeros_0f7a4 74 = .ok (.iload_n 1, 1) := by decide +kernel
theorem dJ6_numberOfTrailingZeros_0f7a4_75 : decode cJ6_numberOfTrailingZeros_0f7a4 75 = .ok (.iload_n 0, 1) := by decide +kernel
theorem dJ6_numberOfTrailingZeros_0f7a4_76 : decode cJ6_numberOfTrailingZeros_0f7a4 76 = .ok (.iconst 1, 1) := by decide +kernel
theorem dJ6_numberOfTrailingZeros_0f7a4_77 : decode cJ6_numberOfTrailingZeros_0f7a4 77 = .ok (.iushr, 1) := by decide +kernel
theorem dJ6_numberOfTrailingZeros_0f7a4_78 : decode cJ6_numberOfTrailingZeros_0f7a4 78 = .ok (.iadd, 1) := by decide +kernel
theorem dJ6_numberOfTrailingZeros_0f7a4_79 : decode cJ6_numberOfTrailingZeros_0f7a4 79 = .ok (.ireturn, 1) := by decide +kernel
noncomputable def f_J6_numberOfTrailingZeros_0f7a4_62 (M : ZMem) (x0 : Int32) (x1 : Int32) : Option Int32 := if x0 ≤ (zI 4) then some (x1 + (zushr x0 (zI 1))) else zbnd (x1 + (zI 2)) (fun x1_67 => zbnd (zushr x0 (zI 2)) (fun x0_73 => some (x1_67 + (zushr x0_73 (zI 1)))))
set_option maxRecDepth 100000 in
set_option maxHeartbeats 4000000 in
theorem w_J6_numberOfTrailingZeros_0f7a4_62 {ly : List ZEnt} {E : ZEv} {G : ZG} {K : Int32 → Prop} (M : ZMem) (h : zRu ly E G (zRp M K) cJ6_numberOfTrailingZeros_0f7a4 RJ6 2 (some .int) 0) (x0 : Int32) (x1 : Int32) (hk : zOk (f_J6_numberOfTrailingZeros_0f7a4_62 M x0 x1) K) : G M 62 [(0, .int x0), (1, .int x1)] [] := by
  unfold f_J6_numberOfTrailingZeros_0f7a4_62 at hk
  refine zr_iload_n h dJ6_numberOfTrailingZeros_0f7a4_62 0 rfl rfl ?_
  refine zr_iconst (v := (zI 4)) h dJ6_numberOfTrailingZeros_0f7a4_63 rfl ?_
  refine zr_icmp_le (tgt := 74) h dJ6_numberOfTrailingZeros_0f7a4_64 (by decide) (fun c => ?_) (fun c => ?_)
  · have hk := zOk_t c hk
    refine zr_iload_n h dJ6_numberOfTrailingZeros_0f7a4_74 1 rfl rfl ?_
    refine zr_iload_n h dJ6_numberOfTrailingZeros_0f7a4_75 0 rfl rfl ?_
    refine zr_iconst (v := (zI 1)) h dJ6_numberOfTrailingZeros_0f7a4_76 rfl ?_
    refine zr_iushr h dJ6_numberOfTrailingZeros_0f7a4_77 ?_
    refine zr_iadd h dJ6_numberOfTrailingZeros_0f7a4_78 ?_
    have hk := zOk_some hk
    exact zr_iret h dJ6_numberOfTrailingZeros_0f7a4_79 ⟨rfl, _, rfl, hk⟩
  · have hk := zOk_f c hk
    obtain ⟨x1_67, ex⟩ : ∃ y : Int32, y = x1 + (zI 2) := ⟨_, rfl⟩
    have hk := zOk_bnd ex hk
    refine zr_iinc (v := x1_67) (L' := [(0, .int x0), (1, .int x1_67)]) h 1 [1, 0] dJ6_numberOfTrailingZeros_0f7a4_67 rfl (by rw [ex]; rfl) (by decide) rfl ?_
    refine zr_iload_n h dJ6_numberOfTrailingZeros_0f7a4_70 0 rfl rfl ?_
    refine zr_iconst (v := (zI 2)) h dJ6_numberOfTrailingZeros_0f7a4_71 rfl ?_
    refine zr_iushr h dJ6_numberOfTrailingZeros_0f7a4_72 ?_
    refine zr_topi (fun x0_73 ex => ?_)
    have hk := zOk_bnd ex hk
    refine zr_istore_n (L' := [(0, .int x0_73), (1, .int x1_67)]) h [0, 1] dJ6_numberOfTrailingZeros_0f7a4_73 rfl (by decide) rfl ?_
    refine zr_iload_n h dJ6_numberOfTrailingZeros_0f7a4_74 1 rfl rfl ?_
    refine zr_iload_n h dJ6_numberOfTrailingZeros_0f7a4_75 0 rfl rfl ?_
    refine zr_iconst (v := (zI 1)) h dJ6_numberOfTrailingZeros_0f7a4_76 rfl ?_
    refine zr_iushr h dJ6_numberOfTrailingZeros_0f7a4_77 ?_
    refine zr_iadd h dJ6_numberOfTrailingZeros_0f7a4_78 ?_
    have hk := zOk_some hk
    exact zr_iret h dJ6_numberOfTrailingZeros_0f7a4_79 ⟨rfl, _, rfl, hk⟩
noncomputable def f_J6_numberOfTrailingZeros_0f7a4_49 (M : ZMem) (x0 : Int32) (x1 : Int32) : Option Int32 := if x0 ≤ (zI 16) then f_J6_numberOfTrailingZeros_0f7a4_62 M x0 x1 else zbnd (x1 + (zI 4)) (fun x1_55 => zbnd (zushr x0 (zI 4)) (fun x0_61 => f_J6_numberOfTrailingZeros_0f7a4_62 M x0_61 x1_55))
set_option maxRecDepth 100000 in
set_option maxHeartbeats 4000000 in
theorem w_J6_numberOfTrailingZeros_0f7a4_49 {ly : List ZEnt} {E : ZEv} {G : ZG} {K : Int32 → Prop} (M : ZMem) (h : zRu ly E G (zRp M K) cJ6_numberOfTrailingZeros_0f7a4 RJ6 2 (some .int) 0) (x0 : Int32) (x1 : Int32) (hk : zOk (f_J6_numberOfTrailingZeros_0f7a4_49 M x0 x1) K) : G M 49 [(0, .int x0), (1, .int x1)] [] := by
  unfold f_J6_numberOfTrailingZeros_0f7a4_49 at hk
  refine zr_iload_n h dJ6_numberOfTrailingZeros_0f7a4_49 0 rfl rfl ?_
  refine zr_bipush (v := (zI 16)) h dJ6_numberOfTrailingZeros_0f7a4_50 (by decide) ?_
  refine zr_icmp_le (tgt := 62) h dJ6_numberOfTrailingZeros_0f7a4_52 (by decide) (fun c => ?_) (fun c => ?_)
  · have hk := zOk_t c hk
    exact w_J6_numberOfTrailingZeros_0f7a4_62 M h x0 x1 hk
  · have hk := zOk_f c hk
    obtain ⟨x1_55, ex⟩ : ∃ y : Int32, y = x1 + (zI 4) := ⟨_, rfl⟩
    have hk := zOk_bnd ex hk
    refine zr_iinc (v := x1_55) (L' := [(0, .int x0), (1, .int x1_55)]) h 1 [1, 0] dJ6_numberOfTrailingZeros_0f7a4_55 rfl (by rw [ex]; rfl) (by decide) rfl ?_
    refine zr_iload_n h dJ6_numberOfTrailingZeros_0f7a4_58 0 rfl rfl ?_
    refine zr_iconst (v := (zI 4)) h dJ6_numberOfTrailingZeros_0f7a4_59 rfl ?_
    refine zr_iushr h dJ6_numberOfTrailingZeros_0f7a4_60 ?_
    refine zr_topi (fun x0_61 ex => ?_)
    have hk := zOk_bnd ex hk
    refine zr_istore_n (L' := [(0, .int x0_61), (1, .int x1_55)]) h [0, 1] dJ6_numberOfTrailingZeros_0f7a4_61 rfl (by decide) rfl ?_
    exact w_J6_numberOfTrailingZeros_0f7a4_62 M h x0_61 x1_55 hk
noncomputable def f_J6_numberOfTrailingZeros_0f7a4_34 (M : ZMem) (x0 : Int32) (x1 : Int32) : Option Int32 := if x0 ≤ (zI 256) then f_J6_numberOfTrailingZeros_0f7a4_49 M x0 x1 else zbnd (x1 + (zI 8)) (fun x1_41 => zbnd (zushr x0 (zI 8)) (fun x0_48 => f_J6_numberOfTrailingZeros_0f7a4_49 M x0_48 x1_41))
set_option maxRecDepth 100000 in
set_option maxHeartbeats 4000000 in
theorem w_J6_numberOfTrailingZeros_0f7a4_34 {ly : List ZEnt} {E : ZEv} {G : ZG} {K : Int32 → Prop} (M : ZMem) (h : zRu ly E G (zRp M K) cJ6_numberOfTrailingZeros_0f7a4 RJ6 2 (some .int) 0) (x0 : Int32) (x1 : Int32) (hk : zOk (f_J6_numberOfTrailingZeros_0f7a4_34 M x0 x1) K) : G M 34 [(0, .int x0), (1, .int x1)] [] := by
  unfold f_J6_numberOfTrailingZeros_0f7a4_34 at hk
  refine zr_iload_n h dJ6_numberOfTrailingZeros_0f7a4_34 0 rfl rfl ?_
  refine zr_sipush (v := (zI 256)) h dJ6_numberOfTrailingZeros_0f7a4_35 (by decide) ?_
  refine zr_icmp_le (tgt := 49) h dJ6_numberOfTrailingZeros_0f7a4_38 (by decide) (fun c => ?_) (fun c => ?_)
  · have hk := zOk_t c hk
    exact w_J6_numberOfTrailingZeros_0f7a4_49 M h x0 x1 hk
  · have hk := zOk_f c hk
    obtain ⟨x1_41, ex⟩ : ∃ y : Int32, y = x1 + (zI 8) := ⟨_, rfl⟩
    have hk := zOk_bnd ex hk
    refine zr_iinc (v := x1_41) (L' := [(0, .int x0), (1, .int x1_41)]) h 1 [1, 0] dJ6_numberOfTrailingZeros_0f7a4_41 rfl (by rw [ex]; rfl) (by decide) rfl ?_
    refine zr_iload_n h dJ6_numberOfTrailingZeros_0f7a4_44 0 rfl rfl ?_
    refine zr_bipush (v := (zI 8)) h dJ6_numberOfTrailingZeros_0f7a4_45 (by decide) ?_
    refine zr_iushr h dJ6_numberOfTrailingZeros_0f7a4_47 ?_
    refine zr_topi (fun x0_48 ex => ?_)
    have hk := zOk_bnd ex hk
    refine zr_istore_n (L' := [(0, .int x0_48), (1, .int x1_41)]) h [0, 1] dJ6_numberOfTrailingZeros_0f7a4_48 rfl (by decide) rfl ?_
    exact w_J6_numberOfTrailingZeros_0f7a4_49 M h x0_48 x1_41 hk
noncomputable def f_J6_numberOfTrailingZeros_0f7a4 (M : ZMem) (x0 : Int32) : Option Int32 := zbnd ((x0 ^^^ (zI (-1))) &&& (x0 - (zI 1))) (fun x0_7 => if (zI 0) < x0_7 then if x0_7 ≤ (65536 : Int32) then f_J6_numberOfTrailingZeros_0f7a4_34 M x0_7 (zI 1) else zbnd ((zI 1) + (zI 16)) (fun x1_26 => zbnd (zushr x0_7 (zI 16)) (fun x0_33 => f_J6_numberOfTrailingZeros_0f7a4_34 M x0_33 x1_26)) else some (x0_7 &&& (zI 32)))
set_option maxRecDepth 100000 in
set_option maxHeartbeats 4000000 in
theorem c_J6_numberOfTrailingZeros_0f7a4 {ly : List ZEnt} (E : ZEv) (M : ZMem) (x0 : Int32) (K : Int32 → Prop) (hk : zOk (f_J6_numberOfTrailingZeros_0f7a4 M x0) K) : zCon ly E yJ6_numberOfTrailingZeros_0f7a4 cJ6_numberOfTrailingZeros_0f7a4 2 (some .int) 0 [.int x0] M (zRp M K) := by
  refine zcon_of (L0 := [(0, .int x0)]) (by decide) rfl (Nat.le_of_ble_eq_true rfl) (fun G h => ?_)
  have h : zRu ly E G (zRp M K) cJ6_numberOfTrailingZeros_0f7a4 RJ6 2 (some .int) 0 := h
  unfold f_J6_numberOfTrailingZeros_0f7a4 at hk
  refine zr_iload_n h dJ6_numberOfTrailingZeros_0f7a4_0 0 rfl rfl ?_
  refine zr_iconst (v := (zI (-1))) h dJ6_numberOfTrailingZeros_0f7a4_1 rfl ?_
  refine zr_ixor h dJ6_numberOfTrailingZeros_0f7a4_2 ?_
  refine zr_iload_n h dJ6_numberOfTrailingZeros_0f7a4_3 0 rfl rfl ?_
  refine zr_iconst (v := (zI 1)) h dJ6_numberOfTrailingZeros_0f7a4_4 rfl ?_
  refine zr_isub h dJ6_numberOfTrailingZeros_0f7a4_5 ?_
  refine zr_iand h dJ6_numberOfTrailingZeros_0f7a4_6 ?_
  refine zr_topi (fun x0_7 ex => ?_)
  have hk := zOk_bnd ex hk
  refine zr_istore_n (L' := [(0, .int x0_7)]) h [0] dJ6_numberOfTrailingZeros_0f7a4_7 rfl (by decide) rfl ?_
  refine zr_iload_n h dJ6_numberOfTrailingZeros_0f7a4_8 0 rfl rfl ?_
  refine zr_if_gt (tgt := 17) h dJ6_numberOfTrailingZeros_0f7a4_9 (by decide) (fun c => ?_) (fun c => ?_)
  · have hk := zOk_t c hk
    refine zr_iconst (v := (zI 1)) h dJ6_numberOfTrailingZeros_0f7a4_17 rfl ?_
    refine zr_istore_n (L' := [(0, .int x0_7), (1, .int (zI 1))]) h [1, 0] dJ6_numberOfTrailingZeros_0f7a4_18 rfl (by decide) rfl ?_
    refine zr_iload_n h dJ6_numberOfTrailingZeros_0f7a4_19 0 rfl rfl ?_
    refine zr_ldcw (v := 65536) h dJ6_numberOfTrailingZeros_0f7a4_20 (zm_50 _ (List.mem_of_getElem? (i := 21) rfl)) ?_
    refine zr_icmp_le (tgt := 34) h dJ6_numberOfTrailingZeros_0f7a4_23 (by decide) (fun c => ?_) (fun c => ?_)
    · have hk := zOk_t c hk
      exact w_J6_numberOfTrailingZeros_0f7a4_34 M h x0_7 (zI 1) hk
    · have hk := zOk_f c hk
      obtain ⟨x1_26, ex⟩ : ∃ y : Int32, y = (zI 1) + (zI 16) := ⟨_, rfl⟩
      have hk := zOk_bnd ex hk
      refine zr_iinc (v := x1_26) (L' := [(0, .int x0_7), (1, .int x1_26)]) h 1 [1, 0] dJ6_numberOfTrailingZeros_0f7a4_26 rfl (by rw [ex]; rfl) (by decide) rfl ?_
      refine zr_iload_n h dJ6_numberOfTrailingZeros_0f7a4_29 0 rfl rfl ?_
      refine zr_bipush (v := (zI 16)) h dJ6_numberOfTrailingZeros_0f7a4_30 (by decide) ?_
      refine zr_iushr h dJ6_numberOfTrailingZeros_0f7a4_32 ?_
      refine zr_topi (fun x0_33 ex => ?_)
      have hk := zOk_bnd ex hk
      refine zr_istore_n (L' := [(0, .int x0_33), (1, .int x1_26)]) h [0, 1] dJ6_numberOfTrailingZeros_0f7a4_33 rfl (by decide) rfl ?_
      exact w_J6_numberOfTrailingZeros_0f7a4_34 M h x0_33 x1_26 hk
  · have hk := zOk_f c hk
    refine zr_iload_n h dJ6_numberOfTrailingZeros_0f7a4_12 0 rfl rfl ?_
    refine zr_bipush (v := (zI 32)) h dJ6_numberOfTrailingZeros_0f7a4_13 (by decide) ?_
    refine zr_iand h dJ6_numberOfTrailingZeros_0f7a4_15 ?_
    have hk := zOk_some hk
    exact zr_iret h dJ6_numberOfTrailingZeros_0f7a4_16 ⟨rfl, _, rfl, hk⟩
