theorem dX0_told_0 : decode cX0_told 0 = .ok (.aload_n 0, 1) := by decide +kernel
theorem dX0_told_1 : decode cX0_told 1 = .ok (.getfield 33, 3) := by decide +kernel
theorem dX0_told_4 : decode cX0_told 4 = .ok (.ireturn, 1) := by decide +kernel
noncomputable def f_X0_told (M : ZMem) : Option Int32 := some (M.1 3 7)
set_option maxRecDepth 100000 in
set_option maxHeartbeats 4000000 in
theorem c_X0_told (E : ZEv) (M : ZMem) (K : Int32 → Prop) (hk : zOk (f_X0_told M) K) : zCon lyC E yX0_told cX0_told 1 (some .int) 0 [zrf E 3] M (zRp M K) := by
  refine zcon_of (L0 := [(0, zrf E 3)]) (by decide) rfl (Nat.le_of_ble_eq_true rfl) (fun G h => ?_)
  have h : zRu lyC E G (zRp M K) cX0_told RX0 1 (some .int) 0 := h
  unfold f_X0_told at hk
  refine zr_aload_n h dX0_told_0 0 rfl rfl ?_
  refine zr_getI h zfo_X0_33 lC_3 rfl dX0_told_1 ?_
  have hk := zOk_some hk
  exact zr_iret h dX0_told_4 ⟨rfl, _, rfl, hk⟩
theorem dX0_has_0 : decode cX0_has 0 = .ok (.iload_n 1, 1) := by decide +kernel
theorem dX0_has_1 : decode cX0_has 1 = .ok (.ifCond .lt 15, 3) := by decide +kernel
theorem dX0_has_4 : decode cX0_has 4 = .ok (.iload_n 1, 1) := by decide +kernel
theorem dX0_has_5 : decode cX0_has 5 = .ok (.aload_n 0, 1) := by decide +kernel
theorem dX0_has_6 : decode cX0_has 6 = .ok (.getfield 33, 3) := by decide +kernel
theorem dX0_has_9 : decode cX0_has 9 = .ok (.if_icmp .ge 7, 3) := by decide +kernel
theorem dX0_has_12 : decode cX0_has 12 = .ok (.iconst 1, 1) := by decide +kernel
theorem dX0_has_13 : decode cX0_has 13 = .ok (.goto 4, 3) := by decide +kernel
theorem dX0_has_16 : decode cX0_has 16 = .ok (.iconst 0, 1) := by decide +kernel
theorem dX0_has_17 : decode cX0_has 17 = .ok (.ireturn, 1) := by decide +kernel
noncomputable def f_X0_has (M : ZMem) (x1 : Int32) : Option Int32 := if x1 < (zI 0) then some (zI 0) else if (M.1 3 7) ≤ x1 then some (zI 0) else some (zI 1)
set_option maxRecDepth 100000 in
set_option maxHeartbeats 4000000 in
theorem c_X0_has (E : ZEv) (M : ZMem) (x1 : Int32) (K : Int32 → Prop) (hk : zOk (f_X0_has M x1) K) : zCon lyC E yX0_has cX0_has 2 (some .boolean) 0 [zrf E 3, .int x1] M (zRp M K) := by
  refine zcon_of (L0 := [(0, zrf E 3), (1, .int x1)]) (by decide) rfl (Nat.le_of_ble_eq_true rfl) (fun G h => ?_)
  have h : zRu lyC E G (zRp M K) cX0_has RX0 2 (some .boolean) 0 := h
  unfold f_X0_has at hk
  refine zr_iload_n h dX0_has_0 1 rfl rfl ?_
  refine zr_if_lt (tgt := 16) h dX0_has_1 (by decide) (fun c => ?_) (fun c => ?_)
  · have hk := zOk_t c hk
    refine zr_iconst (v := (zI 0)) h dX0_has_16 rfl ?_
    have hk := zOk_some hk
    exact zr_zret h dX0_has_17 (by decide) ⟨rfl, _, rfl, hk⟩
  · have hk := zOk_f c hk
    refine zr_iload_n h dX0_has_4 1 rfl rfl ?_
    refine zr_aload_n h dX0_has_5 0 rfl rfl ?_
    refine zr_getI h zfo_X0_33 lC_3 rfl dX0_has_6 ?_
    refine zr_icmp_ge (tgt := 16) h dX0_has_9 (by decide) (fun c => ?_) (fun c => ?_)
    · have hk := zOk_t c hk
      refine zr_iconst (v := (zI 0)) h dX0_has_16 rfl ?_
      have hk := zOk_some hk
      exact zr_zret h dX0_has_17 (by decide) ⟨rfl, _, rfl, hk⟩
    · have hk := zOk_f c hk
      refine zr_iconst (v := (zI 1)) h dX0_has_12 rfl ?_
      refine zr_goto (tgt := 17) h dX0_has_13 (by decide) ?_
      have hk := zOk_some hk
      exact zr_zret h dX0_has_17 (by decide) ⟨rfl, _, rfl, hk⟩
theorem dX0_skipBlanks_0 : decode cX0_skipBlanks 0 = .ok (.aload_n 0, 1) := by decide +kernel
theorem dX0_skipBlanks_1 : decode cX0_skipBlanks 1 = .ok (.getfield 37, 3) := by decide +kernel
theorem dX0_skipBlanks_4 : decode cX0_skipBlanks 4 = .ok (.sipush 300, 3) := by decide +kernel
theorem dX0_skipBlanks_7 : decode cX0_skipBlanks 7 = .ok (.if_icmp .ge 29, 3) := by decide +kernel
theorem dX0_skipBlanks_10 : decode cX0_skipBlanks 10 = .ok (.aload_n 1, 1) := by decide +kernel
theorem dX0_skipBlanks_11 : decode cX0_skipBlanks 11 = .ok (.aload_n 0, 1) := by decide +kernel
theorem dX0_skipBlanks_12 : decode cX0_skipBlanks 12 = .ok (.getfield 37, 3) := by decide +kernel
theorem dX0_skipBlanks_15 : decode cX0_skipBlanks 15 = .ok (.invokevirtual 47, 3) := by decide +kernel
theorem dX0_skipBlanks_18 : decode cX0_skipBlanks 18 = .ok (.bipush 32, 2) := by decide +kernel
theorem dX0_skipBlanks_20 : decode cX0_skipBlanks 20 = .ok (.if_icmp .ne 16, 3) := by decide +kernel
theorem dX0_skipBlanks_23 : decode cX0_skipBlanks 23 = .ok (.aload_n 0, 1) := by decide +kernel
theorem dX0_skipBlanks_24 : decode cX0_skipBlanks 24 = .ok (.dup, 1) := by decide +kernel
theorem dX0_skipBlanks_25 : decode cX0_skipBlanks 25 = .ok (.getfield 37, 3) := by decide +kernel
theorem dX0_skipBlanks_28 : decode cX0_skipBlanks 28 = .ok (.iconst 1, 1) := by decide +kernel
theorem dX0_skipBlanks_29 : decode cX0_skipBlanks 29 = .ok (.iadd, 1) := by decide +kernel
theorem dX0_skipBlanks_30 : decode cX0_skipBlanks 30 = .ok (.putfield 37, 3) := by decide +kernel
theorem dX0_skipBlanks_33 : decode cX0_skipBlanks 33 = .ok (.goto (-33), 3) := by decide +kernel
theorem dX0_skipBlanks_36 : decode cX0_skipBlanks 36 = .ok (.return_, 1) := by decide +kernel
noncomputable def f_X0_skipBlanks_L0 (s : (ZMem)) : Option ((ZMem) ⊕ (ZMem)) := if (zI 300) ≤ (s.1 3 9) then some (.inr s) else zbind (f_X8_byteAt s (s.1 3 9)) (fun r_15 => if r_15 = (zI 32) then zbnd (zstI s 3 9 ((s.1 3 9) + (zI 1))) (fun M_30 => some (.inl M_30)) else some (.inr s))
set_option maxRecDepth 100000 in
set_option maxHeartbeats 4000000 in
theorem w_X0_skipBlanks_L0 {E : ZEv} {G : ZG} {K : ZMem → Prop} (h : zRu lyC E G (zRv K) cX0_skipBlanks RX0 2 none 1) (s : (ZMem)) (hk : zOk (zloop (f_X0_skipBlanks_L0) s) (fun e => G e 36 [] [])) : G s 0 [(0, zrf E 3), (1, zrf E 1)] [] := by
  refine zloop_walk (P := fun s => G s 0 [(0, zrf E 3), (1, zrf E 1)] []) hk (fun s hk => ?_)
  unfold f_X0_skipBlanks_L0 at hk
  refine zr_aload_n h dX0_skipBlanks_0 0 rfl rfl ?_
  refine zr_getI h zfo_X0_37 lC_3 rfl dX0_skipBlanks_1 ?_
  refine zr_sipush (v := (zI 300)) h dX0_skipBlanks_4 (by decide) ?_
  refine zr_icmp_ge (tgt := 36) h dX0_skipBlanks_7 (by decide) (fun c => ?_) (fun c => ?_)
  · have hk := zOk_t c hk
    have hk := zOk_some hk
    exact zr_weak h [] rfl hk
  · have hk := zOk_f c hk
    refine zr_aload_n h dX0_skipBlanks_10 1 rfl rfl ?_
    refine zr_aload_n h dX0_skipBlanks_11 0 rfl rfl ?_
    refine zr_getI h zfo_X0_37 lC_3 rfl dX0_skipBlanks_12 ?_
    refine zr_callVp h lC_1 zcw_X0_47 (by decide) (c_X8_byteAt E s (s.1 3 9) _ (zOk_bind hk)) rfl rfl (Nat.le_of_ble_eq_true rfl) dX0_skipBlanks_15 (fun r_15 hk => ?_)
    refine zr_bipush (v := (zI 32)) h dX0_skipBlanks_18 (by decide) ?_
    refine zr_icmp_ne (tgt := 36) h dX0_skipBlanks_20 (by decide) (fun c => ?_) (fun c => ?_)
    · have hk := zOk_t c hk
      refine zr_aload_n h dX0_skipBlanks_23 0 rfl rfl ?_
      refine zr_dup h dX0_skipBlanks_24 rfl ?_
      refine zr_getI h zfo_X0_37 lC_3 rfl dX0_skipBlanks_25 ?_
      refine zr_iconst (v := (zI 1)) h dX0_skipBlanks_28 rfl ?_
      refine zr_iadd h dX0_skipBlanks_29 ?_
      refine zr_putI h zfp_X0_37 lC_3 rfl dX0_skipBlanks_30 ?_
      refine zr_mem (fun M_30 eM => ?_)
      have hk := zOk_bnd eM hk
      refine zr_goto (tgt := 0) h dX0_skipBlanks_33 (by decide) ?_
      have hk := zOk_some hk
      exact zr_weak h [0, 1] rfl hk
    · have hk := zOk_f c hk
      have hk := zOk_some hk
      exact zr_weak h [] rfl hk
noncomputable def f_X0_skipBlanks (M : ZMem) : Option ZMem := zbind (zloop (f_X0_skipBlanks_L0) M) (fun e0 => some e0)
set_option maxRecDepth 100000 in
set_option maxHeartbeats 4000000 in
theorem c_X0_skipBlanks (E : ZEv) (M : ZMem) (K : ZMem → Prop) (hk : zOk (f_X0_skipBlanks M) K) : zCon lyC E yX0_skipBlanks cX0_skipBlanks 2 none 1 [zrf E 3, zrf E 1] M (zRv K) := by
  refine zcon_of (L0 := [(0, zrf E 3), (1, zrf E 1)]) (by decide) rfl (Nat.le_of_ble_eq_true rfl) (fun G h => ?_)
  have h : zRu lyC E G (zRv K) cX0_skipBlanks RX0 2 none 1 := h
  unfold f_X0_skipBlanks at hk
  refine w_X0_skipBlanks_L0 h M (zOk_mono (zOk_bind hk) (fun e0 hk => ?_))
  have hk := zOk_some hk
  exact zr_vret h dX0_skipBlanks_36 ⟨rfl, hk⟩
theorem dX0_leastUnlike_0 : decode cX0_leastUnlike 0 = .ok (.bipush 25, 2) := by decide +kernel
theorem dX0_leastUnlike_2 : decode cX0_leastUnlike 2 = .ok (.istore_n 2, 1) := by decide +kernel
theorem dX0_leastUnlike_3 : decode cX0_leastUnlike 3 = .ok (.iload_n 1, 1) := by decide +kernel
theorem dX0_leastUnlike_4 : decode cX0_leastUnlike 4 = .ok (.iconst 5, 1) := by decide +kernel
theorem dX0_leastUnlike_5 : decode cX0_leastUnlike 5 = .ok (.ishl, 1) := by decide +kernel
theorem dX0_leastUnlike_6 : decode cX0_leastUnlike 6 = .ok (.iload_n 1, 1) := by decide +kernel
theorem dX0_leastUnlike_7 : decode cX0_leastUnlike 7 = .ok (.bipush 20, 2) := by decide +kernel
theorem dX0_leastUnlike_9 : decode cX0_leastUnlike 9 = .ok (.iushr, 1) := by decide +kernel
theorem dX0_leastUnlike_10 : decode cX0_leastUnlike 10 = .ok (.ior, 1) := by decide +kernel
theorem dX0_leastUnlike_11 : decode cX0_leastUnlike 11 = .ok (.ldc 88, 2) := by decide +kernel
theorem dX0_leastUnlike_13 : decode cX0_leastUnlike 13 = .ok (.iand, 1) := by decide +kernel
theorem dX0_leastUnlike_14 : decode cX0_leastUnlike 14 = .ok (.istore_n 3, 1) := by decide +kernel
theorem dX0_leastUnlike_15 : decode cX0_leastUnlike 15 = .ok (.iconst (-1), 1) := by decide +kernel
theorem dX0_leastUnlike_16 : decode cX0_leastUnlike 16 = .ok (.istore 4, 2) := by decide +kernel
theorem dX0_leastUnlike_18 : decode cX0_leastUnlike 18 = .ok (.iload 4, 2) := by decide +kernel
theorem dX0_leastUnlike_20 : decode cX0_leastUnlike 20 = .ok (.iconst 1, 1) := by decide +kernel
theorem dX0_leastUnlike_21 : decode cX0_leastUnlike 21 = .ok (.if_icmp .gt 83, 3) := by decide +kernel
theorem dX0_leastUnlike_24 : decode cX0_leastUnlike 24 = .ok (.iload_n 3, 1) := by decide +kernel
theorem dX0_leastUnlike_25 : decode cX0_leastUnlike 25 = .ok (.iconst 1, 1) := by decide +kernel
theorem dX0_leastUnlike_26 : decode cX0_leastUnlike 26 = .ok (.ishl, 1) := by decide +kernel
theorem dX0_leastUnlike_27 : decode cX0_leastUnlike 27 = .ok (.ldc 89, 2) := by decide +kernel
theorem dX0_leastUnlike_29 : decode cX0_leastUnlike 29 = .ok (.iand, 1) := by decide +kernel
theorem dX0_leastUnlike_30 : decode cX0_leastUnlike 30 = .ok (.ldc 88, 2) := by decide +kernel
theorem dX0_leastUnlike_32 : decode cX0_leastUnlike 32 = .ok (.iand, 1) := by decide +kernel
theorem dX0_leastUnlike_33 : decode cX0_leastUnlike 33 = .ok (.iload_n 3, 1) := by decide +kernel
theorem dX0_leastUnlike_34 : decode cX0_leastUnlike 34 = .ok (.iconst 4, 1) := by decide +kernel
theorem dX0_leastUnlike_35 : decode cX0_leastUnlike 35 = .ok (.iushr, 1) := by decide +kernel
theorem dX0_leastUnlike_36 : decode cX0_leastUnlike 36 = .ok (.ldc 90, 2) := by decide +kernel
theorem dX0_leastUnlike_38 : decode cX0_leastUnlike 38 = .ok (.iand, 1) := by decide +kernel
theorem dX0_leastUnlike_39 : decode cX0_leastUnlike 39 = .ok (.ior, 1) := by decide +kernel
theorem dX0_leastUnlike_40 : decode cX0_leastUnlike 40 = .ok (.istore 5, 2) := by decide +kernel
theorem dX0_leastUnlike_42 : decode cX0_leastUnlike 42 = .ok (.iconst (-1), 1) := by decide +kernel
theorem dX0_leastUnlike_43 : decode cX0_leastUnlike 43 = .ok (.istore 6, 2) := by decide +kernel
theorem dX0_leastUnlike_45 : decode cX0_leastUnlike 45 = .ok (.iload 6, 2) := by decide +kernel
theorem dX0_leastUnlike_47 : decode cX0_leastUnlike 47 = .ok (.iconst 1, 1) := by decide +kernel
theorem dX0_leastUnlike_48 : decode cX0_leastUnlike 48 = .ok (.if_icmp .gt 38, 3) := by decide +kernel
theorem dX0_leastUnlike_51 : decode cX0_leastUnlike 51 = .ok (.iload_n 2, 1) := by decide +kernel
theorem dX0_leastUnlike_52 : decode cX0_leastUnlike 52 = .ok (.iload_n 0, 1) := by decide +kernel
theorem dX0_leastUnlike_53 : decode cX0_leastUnlike 53 = .ok (.iload 5, 2) := by decide +kernel
theorem dX0_leastUnlike_55 : decode cX0_leastUnlike 55 = .ok (.ixor, 1) := by decide +kernel
theorem dX0_leastUnlike_56 : decode cX0_leastUnlike 56 = .ok (.invokestatic 91, 3) := by decide +kernel
theorem dX0_leastUnlike_59 : decode cX0_leastUnlike 59 = .ok (.invokestatic 71, 3) := by decide +kernel
theorem dX0_leastUnlike_62 : decode cX0_leastUnlike 62 = .ok (.istore_n 2, 1) := by decide +kernel
theorem dX0_leastUnlike_63 : decode cX0_leastUnlike 63 = .ok (.iload 5, 2) := by decide +kernel
theorem dX0_leastUnlike_65 : decode cX0_leastUnlike 65 = .ok (.iconst 1, 1) := by decide +kernel
theorem dX0_leastUnlike_66 : decode cX0_leastUnlike 66 = .ok (.iushr, 1) := by decide +kernel
theorem dX0_leastUnlike_67 : decode cX0_leastUnlike 67 = .ok (.ldc 96, 2) := by decide +kernel
theorem dX0_leastUnlike_69 : decode cX0_leastUnlike 69 = .ok (.iand, 1) := by decide +kernel
theorem dX0_leastUnlike_70 : decode cX0_leastUnlike 70 = .ok (.iload 5, 2) := by decide +kernel
theorem dX0_leastUnlike_72 : decode cX0_leastUnlike 72 = .ok (.iconst 4, 1) := by decide +kernel
theorem dX0_leastUnlike_73 : decode cX0_leastUnlike 73 = .ok (.ishl, 1) := by decide +kernel
theorem dX0_leastUnlike_74 : decode cX0_leastUnlike 74 = .ok (.ldc 97, 2) := by decide +kernel
theorem dX0_leastUnlike_76 : decode cX0_leastUnlike 76 = .ok (.iand, 1) := by decide +kernel
theorem dX0_leastUnlike_77 : decode cX0_leastUnlike 77 = .ok (.ior, 1) := by decide +kernel
theorem dX0_leastUnlike_78 : decode cX0_leastUnlike 78 = .ok (.istore 5, 2) := by decide +kernel
theorem dX0_leastUnlike_80 : decode cX0_leastUnlike 80 = .ok (.iinc 6 1, 3) := by decide +kernel
theorem dX0_leastUnlike_83 : decode cX0_leastUnlike 83 = .ok (.goto (-38), 3) := by decide +kernel
theorem dX0_leastUnlike_86 : decode cX0_leastUnlike 86 = .ok (.iload_n 3, 1) := by decide +kernel
theorem dX0_leastUnlike_87 : decode cX0_leastUnlike 87 = .ok (.iconst 5, 1) := by decide +kernel
theorem dX0_leastUnlike_88 : decode cX0_leastUnlike 88 = .ok (.iushr, 1) := by decide +kernel
theorem dX0_leastUnlike_89 : decode cX0_leastUnlike 89 = .ok (.iload_n 3, 1) := by decide +kernel
theorem dX0_leastUnlike_90 : decode cX0_leastUnlike 90 = .ok (.bipush 20, 2) := by decide +kernel
theorem dX0_leastUnlike_92 : decode cX0_leastUnlike 92 = .ok (.ishl, 1) := by decide +kernel
theorem dX0_leastUnlike_93 : decode cX0_leastUnlike 93 = .ok (.ldc 88, 2) := by decide +kernel
theorem dX0_leastUnlike_95 : decode cX0_leastUnlike 95 = .ok (.iand, 1) := by decide +kernel
theorem dX0_leastUnlike_96 : decode cX0_leastUnlike 96 = .ok (.ior, 1) := by decide +kernel
theorem dX0_leastUnlike_97 : decode cX0_leastUnlike 97 = .ok (.istore_n 3, 1) := by decide +kernel
theorem dX0_leastUnlike_98 : decode cX0_leastUnlike 98 = .ok (.iinc 4 1, 3) := by decide +kernel
theorem dX0_leastUnlike_101 : decode cX0_leastUnlike 101 = .ok (.goto (-83), 3) := by decide +kernel
theorem dX0_leastUnlike_104 : decode cX0_leastUnlike 104 = .ok (.iload_n 2, 1) := by decide +kernel
theorem dX0_leastUnlike_105 : decode cX0_leastUnlike 105 = .ok (.ireturn, 1) := by decide +kernel
noncomputable def f_X0_leastUnlike_L45 (M : ZMem) (x0 : Int32) (x3 : Int32) (x4 : Int32) (s : (Int32 × Int32 × Int32)) : Option ((Int32 × Int32 × Int32) ⊕ (Int32)) := if (zI 1) < s.2.2 then some (.inr s.1) else zbind (f_J6_bitCount_0f7a4 M (x0 ^^^ s.2.1)) (fun r_56 => zbnd (if r_56 < s.1 then r_56 else s.1) (fun x2_62 => zbnd (((zushr s.2.1 (zI 1)) &&& (-17318417 : Int32)) ||| ((s.2.1 <<< ((zI 4) &&& 31)) &&& (17318416 : Int32))) (fun x5_78 => zbnd (s.2.2 + (zI 1)) (fun x6_80 => some (.inl (x2_62, x5_78, x6_80))))))
set_option maxRecDepth 100000 in
set_option maxHeartbeats 4000000 in
theorem w_X0_leastUnlike_L45 {ly : List ZEnt} {E : ZEv} {G : ZG} {K : Int32 → Prop} (M : ZMem) (h : zRu ly E G (zRp M K) cX0_leastUnlike RX0 7 (some .int) 1) (x0 : Int32) (x3 : Int32) (x4 : Int32) (s : (Int32 × Int32 × Int32)) (hk : zOk (zloop (f_X0_leastUnlike_L45 M x0 x3 x4) s) (fun e => G M 86 [(0, .int x0), (2, .int e), (3, .int x3), (4, .int x4)] [])) : G M 45 [(0, .int x0), (2, .int s.1), (3, .int x3), (4, .int x4), (5, .int s.2.1), (6, .int s.2.2)] [] := by
  refine zloop_walk (P := fun s => G M 45 [(0, .int x0), (2, .int s.1), (3, .int x3), (4, .int x4), (5, .int s.2.1), (6, .int s.2.2)] []) hk (fun s hk => ?_)
  unfold f_X0_leastUnlike_L45 at hk
  refine zr_iload h dX0_leastUnlike_45 5 rfl ?_
  refine zr_iconst (v := (zI 1)) h dX0_leastUnlike_47 rfl ?_
  refine zr_icmp_gt (tgt := 86) h dX0_leastUnlike_48 (by decide) (fun c => ?_) (fun c => ?_)
  · have hk := zOk_t c hk
    have hk := zOk_some hk
    exact zr_weak h [0, 1, 2, 3] rfl hk
  · have hk := zOk_f c hk
    refine zr_iload_n h dX0_leastUnlike_51 1 rfl rfl ?_
    refine zr_iload_n h dX0_leastUnlike_52 0 rfl rfl ?_
    refine zr_iload h dX0_leastUnlike_53 4 rfl ?_
    refine zr_ixor h dX0_leastUnlike_55 ?_
    refine zr_callSp h zcw_X0_91 (by decide) (c_J6_bitCount_0f7a4 E M (x0 ^^^ s.2.1) _ (zOk_bind hk)) rfl rfl (Nat.le_of_ble_eq_true rfl) dX0_leastUnlike_56 (fun r_56 hk => ?_)
    refine zr_mmin h (zm_12 _ (List.mem_of_getElem? (i := 10) rfl)) (zm_12 _ (List.mem_of_getElem? (i := 11) rfl)) (zm_12 _ (List.mem_of_getElem? (i := 12) rfl)) (zm_12 _ (List.mem_of_getElem? (i := 13) rfl)) (Nat.le_of_ble_eq_true rfl) dX0_leastUnlike_59 ?_
    refine zr_topi (fun x2_62 ex => ?_)
    have hk := zOk_bnd ex hk
    refine zr_istore_n (L' := [(0, .int x0), (2, .int x2_62), (3, .int x3), (4, .int x4), (5, .int s.2.1), (6, .int s.2.2)]) h [1, 0, 2, 3, 4, 5] dX0_leastUnlike_62 rfl (by decide) rfl ?_
    refine zr_iload h dX0_leastUnlike_63 4 rfl ?_
    refine zr_iconst (v := (zI 1)) h dX0_leastUnlike_65 rfl ?_
    refine zr_iushr h dX0_leastUnlike_66 ?_
    refine zr_ldc (v := -17318417) h dX0_leastUnlike_67 (zm_12 _ (List.mem_of_getElem? (i := 14) rfl)) ?_
    refine zr_iand h dX0_leastUnlike_69 ?_
    refine zr_iload h dX0_leastUnlike_70 4 rfl ?_
    refine zr_iconst (v := (zI 4)) h dX0_leastUnlike_72 rfl ?_
    refine zr_ishl h dX0_leastUnlike_73 ?_
    refine zr_ldc (v := 17318416) h dX0_leastUnlike_74 (zm_12 _ (List.mem_of_getElem? (i := 15) rfl)) ?_
    refine zr_iand h dX0_leastUnlike_76 ?_
    refine zr_ior h dX0_leastUnlike_77 ?_
    refine zr_topi (fun x5_78 ex => ?_)
    have hk := zOk_bnd ex hk
    refine zr_istore (L' := [(0, .int x0), (2, .int x2_62), (3, .int x3), (4, .int x4), (5, .int x5_78), (6, .int s.2.2)]) h [1, 2, 3, 4, 0, 5] dX0_leastUnlike_78 (by decide) rfl ?_
    obtain ⟨x6_80, ex⟩ : ∃ y : Int32, y = s.2.2 + (zI 1) := ⟨_, rfl⟩
    have hk := zOk_bnd ex hk
    refine zr_iinc (v := x6_80) (L' := [(0, .int x0), (2, .int x2_62), (3, .int x3), (4, .int x4), (5, .int x5_78), (6, .int x6_80)]) h 5 [1, 2, 3, 4, 5, 0] dX0_leastUnlike_80 rfl (by rw [ex]; rfl) (by decide) rfl ?_
    refine zr_goto (tgt := 45) h dX0_leastUnlike_83 (by decide) ?_
    have hk := zOk_some hk
    exact zr_weak h [0, 1, 2, 3, 4, 5] rfl hk
noncomputable def f_X0_leastUnlike_L18 (M : ZMem) (x0 : Int32) (s : (Int32 × Int32 × Int32)) : Option ((Int32 × Int32 × Int32) ⊕ (Int32)) := if (zI 1) < s.2.2 then some (.inr s.1) else zbnd ((((s.2.1 <<< ((zI 1) &&& 31)) &&& (-1082402 : Int32)) &&& (33554431 : Int32)) ||| ((zushr s.2.1 (zI 4)) &&& (1082401 : Int32))) (fun x5_40 => zbind (zloop (f_X0_leastUnlike_L45 M x0 s.2.1 s.2.2) (s.1, x5_40, (zI (-1)))) (fun e45 => zbnd ((zushr s.2.1 (zI 5)) ||| ((s.2.1 <<< ((zI 20) &&& 31)) &&& (33554431 : Int32))) (fun x3_97 => zbnd (s.2.2 + (zI 1)) (fun x4_98 => some (.inl (e45, x3_97, x4_98))))))
set_option maxRecDepth 100000 in
set_option maxHeartbeats 4000000 in
theorem w_X0_leastUnlike_L18 {ly : List ZEnt} {E : ZEv} {G : ZG} {K : Int32 → Prop} (M : ZMem) (h : zRu ly E G (zRp M K) cX0_leastUnlike RX0 7 (some .int) 1) (x0 : Int32) (s : (Int32 × Int32 × Int32)) (hk : zOk (zloop (f_X0_leastUnlike_L18 M x0) s) (fun e => G M 104 [(2, .int e)] [])) : G M 18 [(0, .int x0), (2, .int s.1), (3, .int s.2.1), (4, .int s.2.2)] [] := by
  refine zloop_walk (P := fun s => G M 18 [(0, .int x0), (2, .int s.1), (3, .int s.2.1), (4, .int s.2.2)] []) hk (fun s hk => ?_)
  unfold f_X0_leastUnlike_L18 at hk
  refine zr_iload h dX0_leastUnlike_18 3 rfl ?_
  refine zr_iconst (v := (zI 1)) h dX0_leastUnlike_20 rfl ?_
  refine zr_icmp_gt (tgt := 104) h dX0_leastUnlike_21 (by decide) (fun c => ?_) (fun c => ?_)
  · have hk := zOk_t c hk
    have hk := zOk_some hk
    exact zr_weak h [1] rfl hk
  · have hk := zOk_f c hk
    refine zr_iload_n h dX0_leastUnlike_24 2 rfl rfl ?_
    refine zr_iconst (v := (zI 1)) h dX0_leastUnlike_25 rfl ?_
    refine zr_ishl h dX0_leastUnlike_26 ?_
    refine zr_ldc (v := -1082402) h dX0_leastUnlike_27 (zm_12 _ (List.mem_of_getElem? (i := 8) rfl)) ?_
    refine zr_iand h dX0_leastUnlike_29 ?_
    refine zr_ldc (v := 33554431) h dX0_leastUnlike_30 (zm_12 _ (List.mem_of_getElem? (i := 7) rfl)) ?_
    refine zr_iand h dX0_leastUnlike_32 ?_
    refine zr_iload_n h dX0_leastUnlike_33 2 rfl rfl ?_
    refine zr_iconst (v := (zI 4)) h dX0_leastUnlike_34 rfl ?_
    refine zr_iushr h dX0_leastUnlike_35 ?_
    refine zr_ldc (v := 1082401) h dX0_leastUnlike_36 (zm_12 _ (List.mem_of_getElem? (i := 9) rfl)) ?_
    refine zr_iand h dX0_leastUnlike_38 ?_
    refine zr_ior h dX0_leastUnlike_39 ?_
    refine zr_topi (fun x5_40 ex => ?_)
    have hk := zOk_bnd ex hk
    refine zr_istore (L' := [(0, .int x0), (2, .int s.1), (3, .int s.2.1), (4, .int s.2.2), (5, .int x5_40)]) h [1, 2, 3, 4, 0] dX0_leastUnlike_40 (by decide) rfl ?_
    refine zr_iconst (v := (zI (-1))) h dX0_leastUnlike_42 rfl ?_
    refine zr_istore (L' := [(0, .int x0), (2, .int s.1), (3, .int s.2.1), (4, .int s.2.2), (5, .int x5_40), (6, .int (zI (-1)))]) h [1, 2, 3, 4, 5, 0] dX0_leastUnlike_43 (by decide) rfl ?_
    refine w_X0_leastUnlike_L45 M h x0 s.2.1 s.2.2 (s.1, x5_40, (zI (-1))) (zOk_mono (zOk_bind hk) (fun e45 hk => ?_))
    refine zr_iload_n h dX0_leastUnlike_86 2 rfl rfl ?_
    refine zr_iconst (v := (zI 5)) h dX0_leastUnlike_87 rfl ?_
    refine zr_iushr h dX0_leastUnlike_88 ?_
    refine zr_iload_n h dX0_leastUnlike_89 2 rfl rfl ?_
    refine zr_bipush (v := (zI 20)) h dX0_leastUnlike_90 (by decide) ?_
    refine zr_ishl h dX0_leastUnlike_92 ?_
    refine zr_ldc (v := 33554431) h dX0_leastUnlike_93 (zm_12 _ (List.mem_of_getElem? (i := 7) rfl)) ?_
    refine zr_iand h dX0_leastUnlike_95 ?_
    refine zr_ior h dX0_leastUnlike_96 ?_
    refine zr_topi (fun x3_97 ex => ?_)
    have hk := zOk_bnd ex hk
    refine zr_istore_n (L' := [(0, .int x0), (2, .int e45), (3, .int x3_97), (4, .int s.2.2)]) h [1, 2, 0, 3] dX0_leastUnlike_97 rfl (by decide) rfl ?_
    obtain ⟨x4_98, ex⟩ : ∃ y : Int32, y = s.2.2 + (zI 1) := ⟨_, rfl⟩
    have hk := zOk_bnd ex hk
    refine zr_iinc (v := x4_98) (L' := [(0, .int x0), (2, .int e45), (3, .int x3_97), (4, .int x4_98)]) h 3 [1, 2, 3, 0] dX0_leastUnlike_98 rfl (by rw [ex]; rfl) (by decide) rfl ?_
    refine zr_goto (tgt := 18) h dX0_leastUnlike_101 (by decide) ?_
    have hk := zOk_some hk
    exact zr_weak h [0, 1, 2, 3] rfl hk
noncomputable def f_X0_leastUnlike (M : ZMem) (x0 : Int32) (x1 : Int32) : Option Int32 := zbnd (((x1 <<< ((zI 5) &&& 31)) ||| (zushr x1 (zI 20))) &&& (33554431 : Int32)) (fun x3_14 => zbind (zloop (f_X0_leastUnlike_L18 M x0) ((zI 25), x3_14, (zI (-1)))) (fun e18 => some e18))
set_option maxRecDepth 100000 in
set_option maxHeartbeats 4000000 in
theorem c_X0_leastUnlike {ly : List ZEnt} (E : ZEv) (M : ZMem) (x0 : Int32) (x1 : Int32) (K : Int32 → Prop) (hk : zOk (f_X0_leastUnlike M x0 x1) K) : zCon ly E yX0_leastUnlike cX0_leastUnlike 7 (some .int) 1 [.int x0, .int x1] M (zRp M K) := by
  refine zcon_of (L0 := [(0, .int x0), (1, .int x1)]) (by decide) rfl (Nat.le_of_ble_eq_true rfl) (fun G h => ?_)
  have h : zRu ly E G (zRp M K) cX0_leastUnlike RX0 7 (some .int) 1 := h
  unfold f_X0_leastUnlike at hk
  refine zr_bipush (v := (zI 25)) h dX0_leastUnlike_0 (by decide) ?_
  refine zr_istore_n (L' := [(0, .int x0), (1, .int x1), (2, .int (zI 25))]) h [1, 2, 0] dX0_leastUnlike_2 rfl (by decide) rfl ?_
  refine zr_iload_n h dX0_leastUnlike_3 1 rfl rfl ?_
  refine zr_iconst (v := (zI 5)) h dX0_leastUnlike_4 rfl ?_
  refine zr_ishl h dX0_leastUnlike_5 ?_
  refine zr_iload_n h dX0_leastUnlike_6 1 rfl rfl ?_
  refine zr_bipush (v := (zI 20)) h dX0_leastUnlike_7 (by decide) ?_
  refine zr_iushr h dX0_leastUnlike_9 ?_
  refine zr_ior h dX0_leastUnlike_10 ?_
  refine zr_ldc (v := 33554431) h dX0_leastUnlike_11 (zm_12 _ (List.mem_of_getElem? (i := 7) rfl)) ?_
  refine zr_iand h dX0_leastUnlike_13 ?_
  refine zr_topi (fun x3_14 ex => ?_)
  have hk := zOk_bnd ex hk
  refine zr_istore_n (L' := [(0, .int x0), (2, .int (zI 25)), (3, .int x3_14)]) h [1, 3, 0] dX0_leastUnlike_14 rfl (by decide) rfl ?_
  refine zr_iconst (v := (zI (-1))) h dX0_leastUnlike_15 rfl ?_
  refine zr_istore (L' := [(0, .int x0), (2, .int (zI 25)), (3, .int x3_14), (4, .int (zI (-1)))]) h [1, 2, 3, 0] dX0_leastUnlike_16 (by decide) rfl ?_
  refine w_X0_leastUnlike_L18 M h x0 ((zI 25), x3_14, (zI (-1))) (zOk_mono (zOk_bind hk) (fun e18 hk => ?_))
  refine zr_iload_n h dX0_leastUnlike_104 0 rfl rfl ?_
  have hk := zOk_some hk
  exact zr_iret h dX0_leastUnlike_105 ⟨rfl, _, rfl, hk⟩
theorem dX0_addBranch_0 : decode cX0_addBranch 0 = .ok (.aload_n 0, 1) := by decide +kernel
theorem dX0_addBranch_1 : decode cX0_addBranch 1 = .ok (.getfield 98, 3) := by decide +kernel
theorem dX0_addBranch_4 : decode cX0_addBranch 4 = .ok (.bipush 20, 2) := by decide +kernel
theorem dX0_addBranch_6 : decode cX0_addBranch 6 = .ok (.if_icmp .ge 39, 3) := by decide +kernel
theorem dX0_addBranch_9 : decode cX0_addBranch 9 = .ok (.aload_n 0, 1) := by decide +kernel
theorem dX0_addBranch_10 : decode cX0_addBranch 10 = .ok (.getfield 21, 3) := by decide +kernel
theorem dX0_addBranch_13 : decode cX0_addBranch 13 = .ok (.aload_n 0, 1) := by decide +kernel
theorem dX0_addBranch_14 : decode cX0_addBranch 14 = .ok (.getfield 98, 3) := by decide +kernel
theorem dX0_addBranch_17 : decode cX0_addBranch 17 = .ok (.iconst 2, 1) := by decide +kernel
theorem dX0_addBranch_18 : decode cX0_addBranch 18 = .ok (.imul, 1) := by decide +kernel
theorem dX0_addBranch_19 : decode cX0_addBranch 19 = .ok (.iload_n 1, 1) := by decide +kernel
theorem dX0_addBranch_20 : decode cX0_addBranch 20 = .ok (.iastore, 1) := by decide +kernel
theorem dX0_addBranch_21 : decode cX0_addBranch 21 = .ok (.aload_n 0, 1) := by decide +kernel
theorem dX0_addBranch_22 : decode cX0_addBranch 22 = .ok (.getfield 21, 3) := by decide +kernel
theorem dX0_addBranch_25 : decode cX0_addBranch 25 = .ok (.aload_n 0, 1) := by decide +kernel
theorem dX0_addBranch_26 : decode cX0_addBranch 26 = .ok (.getfield 98, 3) := by decide +kernel
theorem dX0_addBranch_29 : decode cX0_addBranch 29 = .ok (.iconst 2, 1) := by decide +kernel
theorem dX0_addBranch_30 : decode cX0_addBranch 30 = .ok (.imul, 1) := by decide +kernel
theorem dX0_addBranch_31 : decode cX0_addBranch 31 = .ok (.iconst 1, 1) := by decide +kernel
theorem dX0_addBranch_32 : decode cX0_addBranch 32 = .ok (.iadd, 1) := by decide +kernel
theorem dX0_addBranch_33 : decode cX0_addBranch 33 = .ok (.iload_n 2, 1) := by decide +kernel
theorem dX0_addBranch_34 : decode cX0_addBranch 34 = .ok (.iastore, 1) := by decide +kernel
theorem dX0_addBranch_35 : decode cX0_addBranch 35 = .ok (.aload_n 0, 1) := by decide +kernel
theorem dX0_addBranch_36 : decode cX0_addBranch 36 = .ok (.dup, 1) := by decide +kernel
theorem dX0_addBranch_37 : decode cX0_addBranch 37 = .ok (.getfield 98, 3) := by decide +kernel
theorem dX0_addBranch_40 : decode cX0_addBranch 40 = .ok (.iconst 1, 1) := by decide +kernel
theorem dX0_addBranch_41 : decode cX0_addBranch 41 = .ok (.iadd, 1) := by decide +kernel
theorem dX0_addBranch_42 : decode cX0_addBranch 42 = .ok (.putfield 98, 3) := by decide +kernel
theorem dX0_addBranch_45 : decode cX0_addBranch 45 = .ok (.return_, 1) := by decide +kernel
noncomputable def f_X0_addBranch (M : ZMem) (x1 : Int32) (x2 : Int32) : Option ZMem := if (zI 20) ≤ (M.1 3 10) then some M else zchk (zin ((M.1 3 10) * (zI 2)) 40) (zbnd (zstI M 7 (zix ((M.1 3 10) * (zI 2))) x1) (fun M_20 => zchk (zin (((M_20.1 3 10) * (zI 2)) + (zI 1)) 40) (zbnd (zstI M_20 7 (zix (((M_20.1 3 10) * (zI 2)) + (zI 1))) x2) (fun M_34 => zbnd (zstI M_34 3 10 ((M_34.1 3 10) + (zI 1))) (fun M_42 => some M_42)))))
set_option maxRecDepth 100000 in
set_option maxHeartbeats 4000000 in
theorem c_X0_addBranch (E : ZEv) (M : ZMem) (x1 : Int32) (x2 : Int32) (K : ZMem → Prop) (hk : zOk (f_X0_addBranch M x1 x2) K) : zCon lyC E yX0_addBranch cX0_addBranch 3 none 0 [zrf E 3, .int x1, .int x2] M (zRv K) := by
  refine zcon_of (L0 := [(0, zrf E 3), (1, .int x1), (2, .int x2)]) (by decide) rfl (Nat.le_of_ble_eq_true rfl) (fun G h => ?_)
  have h : zRu lyC E G (zRv K) cX0_addBranch RX0 3 none 0 := h
  unfold f_X0_addBranch at hk
  refine zr_aload_n h dX0_addBranch_0 0 rfl rfl ?_
  refine zr_getI h zfo_X0_98 lC_3 rfl dX0_addBranch_1 ?_
  refine zr_bipush (v := (zI 20)) h dX0_addBranch_4 (by decide) ?_
  refine zr_icmp_ge (tgt := 45) h dX0_addBranch_6 (by decide) (fun c => ?_) (fun c => ?_)
  · have hk := zOk_t c hk
    have hk := zOk_some hk
    exact zr_vret h dX0_addBranch_45 ⟨rfl, hk⟩
  · have hk := zOk_f c hk
    refine zr_aload_n h dX0_addBranch_9 0 rfl rfl ?_
    refine zr_getR h zfo_X0_21 lC_3 rfl dX0_addBranch_10 ?_
    refine zr_aload_n h dX0_addBranch_13 0 rfl rfl ?_
    refine zr_getI h zfo_X0_98 lC_3 rfl dX0_addBranch_14 ?_
    refine zr_iconst (v := (zI 2)) h dX0_addBranch_17 rfl ?_
    refine zr_imul h dX0_addBranch_18 ?_
    refine zr_iload_n h dX0_addBranch_19 1 rfl rfl ?_
    have hb := zOk_chk hk
    have hk := hb.2
    refine zr_iast h lC_7 hb.1 dX0_addBranch_20 ?_
    refine zr_mem (fun M_20 eM => ?_)
    have hk := zOk_bnd eM hk
    refine zr_aload_n h dX0_addBranch_21 0 rfl rfl ?_
    refine zr_getR h zfo_X0_21 lC_3 rfl dX0_addBranch_22 ?_
    refine zr_aload_n h dX0_addBranch_25 0 rfl rfl ?_
    refine zr_getI h zfo_X0_98 lC_3 rfl dX0_addBranch_26 ?_
    refine zr_iconst (v := (zI 2)) h dX0_addBranch_29 rfl ?_
    refine zr_imul h dX0_addBranch_30 ?_
    refine zr_iconst (v := (zI 1)) h dX0_addBranch_31 rfl ?_
    refine zr_iadd h dX0_addBranch_32 ?_
    refine zr_iload_n h dX0_addBranch_33 2 rfl rfl ?_
    have hb := zOk_chk hk
    have hk := hb.2
    refine zr_iast h lC_7 hb.1 dX0_addBranch_34 ?_
    refine zr_mem (fun M_34 eM => ?_)
    have hk := zOk_bnd eM hk
    refine zr_aload_n h dX0_addBranch_35 0 rfl rfl ?_
    refine zr_dup h dX0_addBranch_36 rfl ?_
    refine zr_getI h zfo_X0_98 lC_3 rfl dX0_addBranch_37 ?_
    refine zr_iconst (v := (zI 1)) h dX0_addBranch_40 rfl ?_
    refine zr_iadd h dX0_addBranch_41 ?_
    refine zr_putI h zfp_X0_98 lC_3 rfl dX0_addBranch_42 ?_
    refine zr_mem (fun M_42 eM => ?_)
    have hk := zOk_bnd eM hk
    have hk := zOk_some hk
    exact zr_vret h dX0_addBranch_45 ⟨rfl, hk⟩
theorem dX0_growTree_0 : decode cX0_growTree 0 = .ok (.aload_n 0, 1) := by decide +kernel
theorem dX0_growTree_1 : decode cX0_growTree 1 = .ok (.iconst 0, 1) := by decide +kernel
theorem dX0_growTree_2 : decode cX0_growTree 2 = .ok (.putfield 98, 3) := by decide +kernel
theorem dX0_growTree_5 : decode cX0_growTree 5 = .ok (.aload_n 0, 1) := by decide +kernel
theorem dX0_growTree_6 : decode cX0_growTree 6 = .ok (.getfield 24, 3) := by decide +kernel
theorem dX0_growTree_9 : decode cX0_growTree 9 = .ok (.invokestatic 101, 3) := by decide +kernel
theorem dX0_growTree_12 : decode cX0_growTree 12 = .ok (.iconst 0, 1) := by decide +kernel
theorem dX0_growTree_13 : decode cX0_growTree 13 = .ok (.istore_n 1, 1) := by decide +kernel
theorem dX0_growTree_14 : decode cX0_growTree 14 = .ok (.iload_n 1, 1) := by decide +kernel
theorem dX0_growTree_15 : decode cX0_growTree 15 = .ok (.bipush 25, 2) := by decide +kernel
theorem dX0_growTree_17 : decode cX0_growTree 17 = .ok (.if_icmp .gt 76, 3) := by decide +kernel
theorem dX0_growTree_20 : decode cX0_growTree 20 = .ok (.iconst 0, 1) := by decide +kernel
theorem dX0_growTree_21 : decode cX0_growTree 21 = .ok (.istore_n 2, 1) := by decide +kernel
theorem dX0_growTree_22 : decode cX0_growTree 22 = .ok (.iload_n 2, 1) := by decide +kernel
theorem dX0_growTree_23 : decode cX0_growTree 23 = .ok (.aload_n 0, 1) := by decide +kernel
theorem dX0_growTree_24 : decode cX0_growTree 24 = .ok (.getfield 33, 3) := by decide +kernel
theorem dX0_growTree_27 : decode cX0_growTree 27 = .ok (.if_icmp .ge 60, 3) := by decide +kernel
theorem dX0_growTree_30 : decode cX0_growTree 30 = .ok (.iload_n 2, 1) := by decide +kernel
theorem dX0_growTree_31 : decode cX0_growTree 31 = .ok (.iconst 1, 1) := by decide +kernel
theorem dX0_growTree_32 : decode cX0_growTree 32 = .ok (.iadd, 1) := by decide +kernel
theorem dX0_growTree_33 : decode cX0_growTree 33 = .ok (.istore_n 3, 1) := by decide +kernel
theorem dX0_growTree_34 : decode cX0_growTree 34 = .ok (.iload_n 3, 1) := by decide +kernel
theorem dX0_growTree_35 : decode cX0_growTree 35 = .ok (.aload_n 0, 1) := by decide +kernel
theorem dX0_growTree_36 : decode cX0_growTree 36 = .ok (.getfield 33, 3) := by decide +kernel
theorem dX0_growTree_39 : decode cX0_growTree 39 = .ok (.if_icmp .ge 42, 3) := by decide +kernel
theorem dX0_growTree_42 : decode cX0_growTree 42 = .ok (.aload_n 0, 1) := by decide +kernel
theorem dX0_growTree_43 : decode cX0_growTree 43 = .ok (.getfield 18, 3) := by decide +kernel
theorem dX0_growTree_46 : decode cX0_growTree 46 = .ok (.iload_n 2, 1) := by decide +kernel
theorem dX0_growTree_47 : decode cX0_growTree 47 = .ok (.bipush 20, 2) := by decide +kernel
theorem dX0_growTree_49 : decode cX0_growTree 49 = .ok (.imul, 1) := by decide +kernel
theorem dX0_growTree_50 : decode cX0_growTree 50 = .ok (.iload_n 3, 1) := by decide +kernel
theorem dX0_growTree_51 : decode cX0_growTree 51 = .ok (.iadd, 1) := by decide +kernel
theorem dX0_growTree_52 : decode cX0_growTree 52 = .ok (.iaload, 1) := by decide +kernel
theorem dX0_growTree_53 : decode cX0_growTree 53 = .ok (.iload_n 1, 1) := by decide +kernel
theorem dX0_growTree_54 : decode cX0_growTree 54 = .ok (.if_icmp .ne 21, 3) := by decide +kernel
theorem dX0_growTree_57 : decode cX0_growTree 57 = .ok (.aload_n 0, 1) := by decide +kernel
theorem dX0_growTree_58 : decode cX0_growTree 58 = .ok (.getfield 24, 3) := by decide +kernel
theorem dX0_growTree_61 : decode cX0_growTree 61 = .ok (.iload_n 2, 1) := by decide +kernel
theorem dX0_growTree_62 : decode cX0_growTree 62 = .ok (.iload_n 3, 1) := by decide +kernel
theorem dX0_growTree_63 : decode cX0_growTree 63 = .ok (.invokestatic 105, 3) := by decide +kernel
theorem dX0_growTree_66 : decode cX0_growTree 66 = .ok (.ifCond .eq 9, 3) := by decide +kernel
theorem dX0_growTree_69 : decode cX0_growTree 69 = .ok (.aload_n 0, 1) := by decide +kernel
theorem dX0_growTree_70 : decode cX0_growTree 70 = .ok (.iload_n 2, 1) := by decide +kernel
theorem dX0_growTree_71 : decode cX0_growTree 71 = .ok (.iload_n 3, 1) := by decide +kernel
theorem dX0_growTree_72 : decode cX0_growTree 72 = .ok (.invokevirtual 109, 3) := by decide +kernel
theorem dX0_growTree_75 : decode cX0_growTree 75 = .ok (.iinc 3 1, 3) := by decide +kernel
theorem dX0_growTree_78 : decode cX0_growTree 78 = .ok (.goto (-44), 3) := by decide +kernel
theorem dX0_growTree_81 : decode cX0_growTree 81 = .ok (.iinc 2 1, 3) := by decide +kernel
theorem dX0_growTree_84 : decode cX0_growTree 84 = .ok (.goto (-62), 3) := by decide +kernel
theorem dX0_growTree_87 : decode cX0_growTree 87 = .ok (.iinc 1 1, 3) := by decide +kernel
theorem dX0_growTree_90 : decode cX0_growTree 90 = .ok (.goto (-76), 3) := by decide +kernel
theorem dX0_growTree_93 : decode cX0_growTree 93 = .ok (.return_, 1) := by decide +kernel
noncomputable def f_X0_growTree_L34 (x1 : Int32) (x2 : Int32) (s : (ZMem × Int32)) : Option ((ZMem × Int32) ⊕ (ZMem)) := if (s.1.1 3 7) ≤ s.2 then some (.inr s.1) else zchk (zin ((x2 * (zI 20)) + s.2) 400) (if (s.1.1 6 (zix ((x2 * (zI 20)) + s.2))) = x1 then zbind (f_X11_joinLabels 8 20 s.1 x2 s.2) (fun r_63 => if r_63.2 = (zI 0) then zbnd (s.2 + (zI 1)) (fun x3_75 => some (.inl (r_63.1, x3_75))) else zbind (f_X0_addBranch r_63.1 x2 s.2) (fun M_72 => zbnd (s.2 + (zI 1)) (fun x3_75 => some (.inl (M_72, x3_75))))) else zbnd (s.2 + (zI 1)) (fun x3_75 => some (.inl (s.1, x3_75))))
set_option maxRecDepth 100000 in
set_option maxHeartbeats 4000000 in
theorem w_X0_growTree_L34 {E : ZEv} {G : ZG} {K : ZMem → Prop} (h : zRu lyC E G (zRv K) cX0_growTree RX0 4 none 1) (x1 : Int32) (x2 : Int32) (s : (ZMem × Int32)) (hk : zOk (zloop (f_X0_growTree_L34 x1 x2) s) (fun e => G e 81 [(0, zrf E 3), (1, .int x1), (2, .int x2)] [])) : G s.1 34 [(0, zrf E 3), (1, .int x1), (2, .int x2), (3, .int s.2)] [] := by
  refine zloop_walk (P := fun s => G s.1 34 [(0, zrf E 3), (1, .int x1), (2, .int x2), (3, .int s.2)] []) hk (fun s hk => ?_)
  unfold f_X0_growTree_L34 at hk
  refine zr_iload_n h dX0_growTree_34 3 rfl rfl ?_
  refine zr_aload_n h dX0_growTree_35 0 rfl rfl ?_
  refine zr_getI h zfo_X0_33 lC_3 rfl dX0_growTree_36 ?_
  refine zr_icmp_ge (tgt := 81) h dX0_growTree_39 (by decide) (fun c => ?_) (fun c => ?_)
  · have hk := zOk_t c hk
    have hk := zOk_some hk
    exact zr_weak h [0, 1, 2] rfl hk
  · have hk := zOk_f c hk
    refine zr_aload_n h dX0_growTree_42 0 rfl rfl ?_
    refine zr_getR h zfo_X0_18 lC_3 rfl dX0_growTree_43 ?_
    refine zr_iload_n h dX0_growTree_46 2 rfl rfl ?_
    refine zr_bipush (v := (zI 20)) h dX0_growTree_47 (by decide) ?_
    refine zr_imul h dX0_growTree_49 ?_
    refine zr_iload_n h dX0_growTree_50 3 rfl rfl ?_
    refine zr_iadd h dX0_growTree_51 ?_
    have hb := zOk_chk hk
    have hk := hb.2
    refine zr_iald h lC_6 hb.1 dX0_growTree_52 ?_
    refine zr_iload_n h dX0_growTree_53 1 rfl rfl ?_
    refine zr_icmp_ne (tgt := 75) h dX0_growTree_54 (by decide) (fun c => ?_) (fun c => ?_)
    · have hk := zOk_t c hk
      refine zr_aload_n h dX0_growTree_57 0 rfl rfl ?_
      refine zr_getR h zfo_X0_24 lC_3 rfl dX0_growTree_58 ?_
      refine zr_iload_n h dX0_growTree_61 2 rfl rfl ?_
      refine zr_iload_n h dX0_growTree_62 3 rfl rfl ?_
      refine zr_callNm h zcw_X0_105 (by decide) (c_X11_joinLabels E 8 20 lC_8 s.1 x2 s.2 _ (zOk_bind hk)) rfl rfl (Nat.le_of_ble_eq_true rfl) dX0_growTree_63 (fun r_63 hk => ?_)
      refine zr_if_eq (tgt := 75) h dX0_growTree_66 (by decide) (fun c => ?_) (fun c => ?_)
      · have hk := zOk_t c hk
        obtain ⟨x3_75, ex⟩ : ∃ y : Int32, y = s.2 + (zI 1) := ⟨_, rfl⟩
        have hk := zOk_bnd ex hk
        refine zr_iinc (v := x3_75) (L' := [(0, zrf E 3), (1, .int x1), (2, .int x2), (3, .int x3_75)]) h 3 [1, 2, 3, 0] dX0_growTree_75 rfl (by rw [ex]; rfl) (by decide) rfl ?_
        refine zr_goto (tgt := 34) h dX0_growTree_78 (by decide) ?_
        have hk := zOk_some hk
        exact zr_weak h [0, 1, 2, 3] rfl hk
      · have hk := zOk_f c hk
        refine zr_aload_n h dX0_growTree_69 0 rfl rfl ?_
        refine zr_iload_n h dX0_growTree_70 2 rfl rfl ?_
        refine zr_iload_n h dX0_growTree_71 3 rfl rfl ?_
        refine zr_callVv h lC_3 zcw_X0_109 (by decide) (c_X0_addBranch E r_63.1 x2 s.2 _ (zOk_bind hk)) rfl rfl (Nat.le_of_ble_eq_true rfl) dX0_growTree_72 (fun M_72 hk => ?_)
        obtain ⟨x3_75, ex⟩ : ∃ y : Int32, y = s.2 + (zI 1) := ⟨_, rfl⟩
        have hk := zOk_bnd ex hk
        refine zr_iinc (v := x3_75) (L' := [(0, zrf E 3), (1, .int x1), (2, .int x2), (3, .int x3_75)]) h 3 [1, 2, 3, 0] dX0_growTree_75 rfl (by rw [ex]; rfl) (by decide) rfl ?_
        refine zr_goto (tgt := 34) h dX0_growTree_78 (by decide) ?_
        have hk := zOk_some hk
        exact zr_weak h [0, 1, 2, 3] rfl hk
    · have hk := zOk_f c hk
      obtain ⟨x3_75, ex⟩ : ∃ y : Int32, y = s.2 + (zI 1) := ⟨_, rfl⟩
      have hk := zOk_bnd ex hk
      refine zr_iinc (v := x3_75) (L' := [(0, zrf E 3), (1, .int x1), (2, .int x2), (3, .int x3_75)]) h 3 [1, 2, 3, 0] dX0_growTree_75 rfl (by rw [ex]; rfl) (by decide) rfl ?_
      refine zr_goto (tgt := 34) h dX0_growTree_78 (by decide) ?_
      have hk := zOk_some hk
      exact zr_weak h [0, 1, 2, 3] rfl hk
noncomputable def f_X0_growTree_L22 (x1 : Int32) (s : (ZMem × Int32)) : Option ((ZMem × Int32) ⊕ (ZMem)) := if (s.1.1 3 7) ≤ s.2 then some (.inr s.1) else zbnd (s.2 + (zI 1)) (fun x3_33 => zbind (zloop (f_X0_growTree_L34 x1 s.2) (s.1, x3_33)) (fun e34 => zbnd (s.2 + (zI 1)) (fun x2_81 => some (.inl (e34, x2_81)))))
set_option maxRecDepth 100000 in
set_option maxHeartbeats 4000000 in
theorem w_X0_growTree_L22 {E : ZEv} {G : ZG} {K : ZMem → Prop} (h : zRu lyC E G (zRv K) cX0_growTree RX0 4 none 1) (x1 : Int32) (s : (ZMem × Int32)) (hk : zOk (zloop (f_X0_growTree_L22 x1) s) (fun e => G e 87 [(0, zrf E 3), (1, .int x1)] [])) : G s.1 22 [(0, zrf E 3), (1, .int x1), (2, .int s.2)] [] := by
  refine zloop_walk (P := fun s => G s.1 22 [(0, zrf E 3), (1, .int x1), (2, .int s.2)] []) hk (fun s hk => ?_)
  unfold f_X0_growTree_L22 at hk
  refine zr_iload_n h dX0_growTree_22 2 rfl rfl ?_
  refine zr_aload_n h dX0_growTree_23 0 rfl rfl ?_
  refine zr_getI h zfo_X0_33 lC_3 rfl dX0_growTree_24 ?_
  refine zr_icmp_ge (tgt := 87) h dX0_growTree_27 (by decide) (fun c => ?_) (fun c => ?_)
  · have hk := zOk_t c hk
    have hk := zOk_some hk
    exact zr_weak h [0, 1] rfl hk
  · have hk := zOk_f c hk
    refine zr_iload_n h dX0_growTree_30 2 rfl rfl ?_
    refine zr_iconst (v := (zI 1)) h dX0_growTree_31 rfl ?_
    refine zr_iadd h dX0_growTree_32 ?_
    refine zr_topi (fun x3_33 ex => ?_)
    have hk := zOk_bnd ex hk
    refine zr_istore_n (L' := [(0, zrf E 3), (1, .int x1), (2, .int s.2), (3, .int x3_33)]) h [1, 2, 3, 0] dX0_growTree_33 rfl (by decide) rfl ?_
    refine w_X0_growTree_L34 h x1 s.2 (s.1, x3_33) (zOk_mono (zOk_bind hk) (fun e34 hk => ?_))
    obtain ⟨x2_81, ex⟩ : ∃ y : Int32, y = s.2 + (zI 1) := ⟨_, rfl⟩
    have hk := zOk_bnd ex hk
    refine zr_iinc (v := x2_81) (L' := [(0, zrf E 3), (1, .int x1), (2, .int x2_81)]) h 2 [1, 2, 0] dX0_growTree_81 rfl (by rw [ex]; rfl) (by decide) rfl ?_
    refine zr_goto (tgt := 22) h dX0_growTree_84 (by decide) ?_
    have hk := zOk_some hk
    exact zr_weak h [0, 1, 2] rfl hk
noncomputable def f_X0_growTree_L14 (s : (ZMem × Int32)) : Option ((ZMem × Int32) ⊕ (ZMem)) := if (zI 25) < s.2 then some (.inr s.1) else zbind (zloop (f_X0_growTree_L22 s.2) (s.1, (zI 0))) (fun e22 => zbnd (s.2 + (zI 1)) (fun x1_87 => some (.inl (e22, x1_87))))
set_option maxRecDepth 100000 in
set_option maxHeartbeats 4000000 in
theorem w_X0_growTree_L14 {E : ZEv} {G : ZG} {K : ZMem → Prop} (h : zRu lyC E G (zRv K) cX0_growTree RX0 4 none 1) (s : (ZMem × Int32)) (hk : zOk (zloop (f_X0_growTree_L14) s) (fun e => G e 93 [] [])) : G s.1 14 [(0, zrf E 3), (1, .int s.2)] [] := by
  refine zloop_walk (P := fun s => G s.1 14 [(0, zrf E 3), (1, .int s.2)] []) hk (fun s hk => ?_)
  unfold f_X0_growTree_L14 at hk
  refine zr_iload_n h dX0_growTree_14 1 rfl rfl ?_
  refine zr_bipush (v := (zI 25)) h dX0_growTree_15 (by decide) ?_
  refine zr_icmp_gt (tgt := 93) h dX0_growTree_17 (by decide) (fun c => ?_) (fun c => ?_)
  · have hk := zOk_t c hk
    have hk := zOk_some hk
    exact zr_weak h [] rfl hk
  · have hk := zOk_f c hk
    refine zr_iconst (v := (zI 0)) h dX0_growTree_20 rfl ?_
    refine zr_istore_n (L' := [(0, zrf E 3), (1, .int s.2), (2, .int (zI 0))]) h [1, 2, 0] dX0_growTree_21 rfl (by decide) rfl ?_
    refine w_X0_growTree_L22 h s.2 (s.1, (zI 0)) (zOk_mono (zOk_bind hk) (fun e22 hk => ?_))
    obtain ⟨x1_87, ex⟩ : ∃ y : Int32, y = s.2 + (zI 1) := ⟨_, rfl⟩
    have hk := zOk_bnd ex hk
    refine zr_iinc (v := x1_87) (L' := [(0, zrf E 3), (1, .int x1_87)]) h 1 [1, 0] dX0_growTree_87 rfl (by rw [ex]; rfl) (by decide) rfl ?_
    refine zr_goto (tgt := 14) h dX0_growTree_90 (by decide) ?_
    have hk := zOk_some hk
    exact zr_weak h [0, 1] rfl hk
noncomputable def f_X0_growTree (M : ZMem) : Option ZMem := zbnd (zstI M 3 10 (zI 0)) (fun M_2 => zbind (f_X11_startLabels 8 20 M_2) (fun M_9 => zbind (zloop (f_X0_growTree_L14) (M_9, (zI 0))) (fun e14 => some e14)))
set_option maxRecDepth 100000 in
set_option maxHeartbeats 4000000 in
theorem c_X0_growTree (E : ZEv) (M : ZMem) (K : ZMem → Prop) (hk : zOk (f_X0_growTree M) K) : zCon lyC E yX0_growTree cX0_growTree 4 none 1 [zrf E 3] M (zRv K) := by
  refine zcon_of (L0 := [(0, zrf E 3)]) (by decide) rfl (Nat.le_of_ble_eq_true rfl) (fun G h => ?_)
  have h : zRu lyC E G (zRv K) cX0_growTree RX0 4 none 1 := h
  unfold f_X0_growTree at hk
  refine zr_aload_n h dX0_growTree_0 0 rfl rfl ?_
  refine zr_iconst (v := (zI 0)) h dX0_growTree_1 rfl ?_
  refine zr_putI h zfp_X0_98 lC_3 rfl dX0_growTree_2 ?_
  refine zr_mem (fun M_2 eM => ?_)
  have hk := zOk_bnd eM hk
  refine zr_aload_n h dX0_growTree_5 0 rfl rfl ?_
  refine zr_getR h zfo_X0_24 lC_3 rfl dX0_growTree_6 ?_
  refine zr_callNv h zcw_X0_101 (by decide) (c_X11_startLabels E 8 20 lC_8 M_2 _ (zOk_bind hk)) rfl rfl (Nat.le_of_ble_eq_true rfl) dX0_growTree_9 (fun M_9 hk => ?_)
  refine zr_iconst (v := (zI 0)) h dX0_growTree_12 rfl ?_
  refine zr_istore_n (L' := [(0, zrf E 3), (1, .int (zI 0))]) h [1, 0] dX0_growTree_13 rfl (by decide) rfl ?_
  refine w_X0_growTree_L14 h (M_9, (zI 0)) (zOk_mono (zOk_bind hk) (fun e14 hk => ?_))
  have hk := zOk_some hk
  exact zr_vret h dX0_growTree_93 ⟨rfl, hk⟩
theorem dX0_keepStaged_0 : decode cX0_keepStaged 0 = .ok (.aload_n 0, 1) := by decide +kernel
theorem dX0_keepStaged_1 : decode cX0_keepStaged 1 = .ok (.aload_n 0, 1) := by decide +kernel
theorem dX0_keepStaged_2 : decode cX0_keepStaged 2 = .ok (.getfield 40, 3) := by decide +kernel
theorem dX0_keepStaged_5 : decode cX0_keepStaged 5 = .ok (.putfield 33, 3) := by decide +kernel
theorem dX0_keepStaged_8 : decode cX0_keepStaged 8 = .ok (.aload_n 0, 1) := by decide +kernel
theorem dX0_keepStaged_9 : decode cX0_keepStaged 9 = .ok (.getfield 15, 3) := by decide +kernel
theorem dX0_keepStaged_12 : decode cX0_keepStaged 12 = .ok (.iconst 0, 1) := by decide +kernel
theorem dX0_keepStaged_13 : decode cX0_keepStaged 13 = .ok (.aload_n 0, 1) := by decide +kernel
theorem dX0_keepStaged_14 : decode cX0_keepStaged 14 = .ok (.getfield 9, 3) := by decide +kernel
theorem dX0_keepStaged_17 : decode cX0_keepStaged 17 = .ok (.iconst 0, 1) := by decide +kernel
theorem dX0_keepStaged_18 : decode cX0_keepStaged 18 = .ok (.bipush 20, 2) := by decide +kernel
theorem dX0_keepStaged_20 : decode cX0_keepStaged 20 = .ok (.invokestatic 76, 3) := by decide +kernel
theorem dX0_keepStaged_23 : decode cX0_keepStaged 23 = .ok (.iconst 0, 1) := by decide +kernel
theorem dX0_keepStaged_24 : decode cX0_keepStaged 24 = .ok (.istore_n 1, 1) := by decide +kernel
theorem dX0_keepStaged_25 : decode cX0_keepStaged 25 = .ok (.iload_n 1, 1) := by decide +kernel
theorem dX0_keepStaged_26 : decode cX0_keepStaged 26 = .ok (.aload_n 0, 1) := by decide +kernel
theorem dX0_keepStaged_27 : decode cX0_keepStaged 27 = .ok (.getfield 33, 3) := by decide +kernel
theorem dX0_keepStaged_30 : decode cX0_keepStaged 30 = .ok (.if_icmp .ge 65, 3) := by decide +kernel
theorem dX0_keepStaged_33 : decode cX0_keepStaged 33 = .ok (.iload_n 1, 1) := by decide +kernel
theorem dX0_keepStaged_34 : decode cX0_keepStaged 34 = .ok (.istore_n 2, 1) := by decide +kernel
theorem dX0_keepStaged_35 : decode cX0_keepStaged 35 = .ok (.iload_n 2, 1) := by decide +kernel
theorem dX0_keepStaged_36 : decode cX0_keepStaged 36 = .ok (.aload_n 0, 1) := by decide +kernel
theorem dX0_keepStaged_37 : decode cX0_keepStaged 37 = .ok (.getfield 33, 3) := by decide +kernel
theorem dX0_keepStaged_40 : decode cX0_keepStaged 40 = .ok (.if_icmp .ge 49, 3) := by decide +kernel
theorem dX0_keepStaged_43 : decode cX0_keepStaged 43 = .ok (.aload_n 0, 1) := by decide +kernel
theorem dX0_keepStaged_44 : decode cX0_keepStaged 44 = .ok (.getfield 9, 3) := by decide +kernel
theorem dX0_keepStaged_47 : decode cX0_keepStaged 47 = .ok (.iload_n 1, 1) := by decide +kernel
theorem dX0_keepStaged_48 : decode cX0_keepStaged 48 = .ok (.iaload, 1) := by decide +kernel
theorem dX0_keepStaged_49 : decode cX0_keepStaged 49 = .ok (.aload_n 0, 1) := by decide +kernel
theorem dX0_keepStaged_50 : decode cX0_keepStaged 50 = .ok (.getfield 9, 3) := by decide +kernel
theorem dX0_keepStaged_53 : decode cX0_keepStaged 53 = .ok (.iload_n 2, 1) := by decide +kernel
theorem dX0_keepStaged_54 : decode cX0_keepStaged 54 = .ok (.iaload, 1) := by decide +kernel
theorem dX0_keepStaged_55 : decode cX0_keepStaged 55 = .ok (.invokestatic 82, 3) := by decide +kernel
theorem dX0_keepStaged_58 : decode cX0_keepStaged 58 = .ok (.istore_n 3, 1) := by decide +kernel
theorem dX0_keepStaged_59 : decode cX0_keepStaged 59 = .ok (.aload_n 0, 1) := by decide +kernel
theorem dX0_keepStaged_60 : decode cX0_keepStaged 60 = .ok (.getfield 18, 3) := by decide +kernel
theorem dX0_keepStaged_63 : decode cX0_keepStaged 63 = .ok (.iload_n 1, 1) := by decide +kernel
theorem dX0_keepStaged_64 : decode cX0_keepStaged 64 = .ok (.bipush 20, 2) := by decide +kernel
theorem dX0_keepStaged_66 : decode cX0_keepStaged 66 = .ok (.imul, 1) := by decide +kernel
theorem dX0_keepStaged_67 : decode cX0_keepStaged 67 = .ok (.iload_n 2, 1) := by decide +kernel
theorem dX0_keepStaged_68 : decode cX0_keepStaged 68 = .ok (.iadd, 1) := by decide +kernel
theorem dX0_keepStaged_69 : decode cX0_keepStaged 69 = .ok (.iload_n 3, 1) := by decide +kernel
theorem dX0_keepStaged_70 : decode cX0_keepStaged 70 = .ok (.iastore, 1) := by decide +kernel
theorem dX0_keepStaged_71 : decode cX0_keepStaged 71 = .ok (.aload_n 0, 1) := by decide +kernel
theorem dX0_keepStaged_72 : decode cX0_keepStaged 72 = .ok (.getfield 18, 3) := by decide +kernel
theorem dX0_keepStaged_75 : decode cX0_keepStaged 75 = .ok (.iload_n 2, 1) := by decide +kernel
theorem dX0_keepStaged_76 : decode cX0_keepStaged 76 = .ok (.bipush 20, 2) := by decide +kernel
theorem dX0_keepStaged_78 : decode cX0_keepStaged 78 = .ok (.imul, 1) := by decide +kernel
theorem dX0_keepStaged_79 : decode cX0_keepStaged 79 = .ok (.iload_n 1, 1) := by decide +kernel
theorem dX0_keepStaged_80 : decode cX0_keepStaged 80 = .ok (.iadd, 1) := by decide +kernel
theorem dX0_keepStaged_81 : decode cX0_keepStaged 81 = .ok (.iload_n 3, 1) := by decide +kernel
theorem dX0_keepStaged_82 : decode cX0_keepStaged 82 = .ok (.iastore, 1) := by decide +kernel
theorem dX0_keepStaged_83 : decode cX0_keepStaged 83 = .ok (.iinc 2 1, 3) := by decide +kernel
theorem dX0_keepStaged_86 : decode cX0_keepStaged 86 = .ok (.goto (-51), 3) := by decide +kernel
theorem dX0_keepStaged_89 : decode cX0_keepStaged 89 = .ok (.iinc 1 1, 3) := by decide +kernel
theorem dX0_keepStaged_92 : decode cX0_keepStaged 92 = .ok (.goto (-67), 3) := by decide +kernel
theorem dX0_keepStaged_95 : decode cX0_keepStaged 95 = .ok (.aload_n 0, 1) := by decide +kernel
theorem dX0_keepStaged_96 : decode cX0_keepStaged 96 = .ok (.invokevirtual 85, 3) := by decide +kernel
theorem dX0_keepStaged_99 : decode cX0_keepStaged 99 = .ok (.return_, 1) := by decide +kernel
noncomputable def f_X0_keepStaged_L35 (x1 : Int32) (s : (ZMem × Int32)) : Option ((ZMem × Int32) ⊕ (ZMem)) := if (s.1.1 3 7) ≤ s.2 then some (.inr s.1) else zchk (zin x1 20) (zchk (zin s.2 20) (zbind (f_X0_leastUnlike s.1 (s.1.1 4 (zix x1)) (s.1.1 4 (zix s.2))) (fun r_55 => zchk (zin ((x1 * (zI 20)) + s.2) 400) (zbnd (zstI s.1 6 (zix ((x1 * (zI 20)) + s.2)) r_55) (fun M_70 => zchk (zin ((s.2 * (zI 20)) + x1) 400) (zbnd (zstI M_70 6 (zix ((s.2 * (zI 20)) + x1)) r_55) (fun M_82 => zbnd (s.2 + (zI 1)) (fun x2_83 => some (.inl (M_82, x2_83))))))))))
set_option maxRecDepth 100000 in
set_option maxHeartbeats 4000000 in
theorem w_X0_keepStaged_L35 {E : ZEv} {G : ZG} {K : ZMem → Prop} (h : zRu lyC E G (zRv K) cX0_keepStaged RX0 4 none 2) (x1 : Int32) (s : (ZMem × Int32)) (hk : zOk (zloop (f_X0_keepStaged_L35 x1) s) (fun e => G e 89 [(0, zrf E 3), (1, .int x1)] [])) : G s.1 35 [(0, zrf E 3), (1, .int x1), (2, .int s.2)] [] := by
  refine zloop_walk (P := fun s => G s.1 35 [(0, zrf E 3), (1, .int x1), (2, .int s.2)] []) hk (fun s hk => ?_)
  unfold f_X0_keepStaged_L35 at hk
  refine zr_iload_n h dX0_keepStaged_35 2 rfl rfl ?_
  refine zr_aload_n h dX0_keepStaged_36 0 rfl rfl ?_
  refine zr_getI h zfo_X0_33 lC_3 rfl dX0_keepStaged_37 ?_
  refine zr_icmp_ge (tgt := 89) h dX0_keepStaged_40 (by decide) (fun c => ?_) (fun c => ?_)
  · have hk := zOk_t c hk
    have hk := zOk_some hk
    exact zr_weak h [0, 1] rfl hk
  · have hk := zOk_f c hk
    refine zr_aload_n h dX0_keepStaged_43 0 rfl rfl ?_
    refine zr_getR h zfo_X0_9 lC_3 rfl dX0_keepStaged_44 ?_
    refine zr_iload_n h dX0_keepStaged_47 1 rfl rfl ?_
    have hb := zOk_chk hk
    have hk := hb.2
    refine zr_iald h lC_4 hb.1 dX0_keepStaged_48 ?_
    refine zr_aload_n h dX0_keepStaged_49 0 rfl rfl ?_
    refine zr_getR h zfo_X0_9 lC_3 rfl dX0_keepStaged_50 ?_
    refine zr_iload_n h dX0_keepStaged_53 2 rfl rfl ?_
    have hb := zOk_chk hk
    have hk := hb.2
    refine zr_iald h lC_4 hb.1 dX0_keepStaged_54 ?_
    refine zr_callSp h zcw_X0_82 (by decide) (c_X0_leastUnlike E s.1 (s.1.1 4 (zix x1)) (s.1.1 4 (zix s.2)) _ (zOk_bind hk)) rfl rfl (Nat.le_of_ble_eq_true rfl) dX0_keepStaged_55 (fun r_55 hk => ?_)
    refine zr_istore_n (L' := [(0, zrf E 3), (1, .int x1), (2, .int s.2), (3, .int r_55)]) h [1, 2, 3, 0] dX0_keepStaged_58 rfl (by decide) rfl ?_
    refine zr_aload_n h dX0_keepStaged_59 0 rfl rfl ?_
    refine zr_getR h zfo_X0_18 lC_3 rfl dX0_keepStaged_60 ?_
    refine zr_iload_n h dX0_keepStaged_63 1 rfl rfl ?_
    refine zr_bipush (v := (zI 20)) h dX0_keepStaged_64 (by decide) ?_
    refine zr_imul h dX0_keepStaged_66 ?_
    refine zr_iload_n h dX0_keepStaged_67 2 rfl rfl ?_
    refine zr_iadd h dX0_keepStaged_68 ?_
    refine zr_iload_n h dX0_keepStaged_69 3 rfl rfl ?_
    have hb := zOk_chk hk
    have hk := hb.2
    refine zr_iast h lC_6 hb.1 dX0_keepStaged_70 ?_
    refine zr_mem (fun M_70 eM => ?_)
    have hk := zOk_bnd eM hk
    refine zr_aload_n h dX0_keepStaged_71 0 rfl rfl ?_
    refine zr_getR h zfo_X0_18 lC_3 rfl dX0_keepStaged_72 ?_
    refine zr_iload_n h dX0_keepStaged_75 2 rfl rfl ?_
    refine zr_bipush (v := (zI 20)) h dX0_keepStaged_76 (by decide) ?_
    refine zr_imul h dX0_keepStaged_78 ?_
    refine zr_iload_n h dX0_keepStaged_79 1 rfl rfl ?_
    refine zr_iadd h dX0_keepStaged_80 ?_
    refine zr_iload_n h dX0_keepStaged_81 3 rfl rfl ?_
    have hb := zOk_chk hk
    have hk := hb.2
    refine zr_iast h lC_6 hb.1 dX0_keepStaged_82 ?_
    refine zr_mem (fun M_82 eM => ?_)
    have hk := zOk_bnd eM hk
    obtain ⟨x2_83, ex⟩ : ∃ y : Int32, y = s.2 + (zI 1) := ⟨_, rfl⟩
    have hk := zOk_bnd ex hk
    refine zr_iinc (v := x2_83) (L' := [(0, zrf E 3), (1, .int x1), (2, .int x2_83)]) h 2 [1, 2, 0] dX0_keepStaged_83 rfl (by rw [ex]; rfl) (by decide) rfl ?_
    refine zr_goto (tgt := 35) h dX0_keepStaged_86 (by decide) ?_
    have hk := zOk_some hk
    exact zr_weak h [0, 1, 2] rfl hk
noncomputable def f_X0_keepStaged_L25 (s : (ZMem × Int32)) : Option ((ZMem × Int32) ⊕ (ZMem)) := if (s.1.1 3 7) ≤ s.2 then some (.inr s.1) else zbind (zloop (f_X0_keepStaged_L35 s.2) (s.1, s.2)) (fun e35 => zbnd (s.2 + (zI 1)) (fun x1_89 => some (.inl (e35, x1_89))))
set_option maxRecDepth 100000 in
set_option maxHeartbeats 4000000 in
theorem w_X0_keepStaged_L25 {E : ZEv} {G : ZG} {K : ZMem → Prop} (h : zRu lyC E G (zRv K) cX0_keepStaged RX0 4 none 2) (s : (ZMem × Int32)) (hk : zOk (zloop (f_X0_keepStaged_L25) s) (fun e => G e 95 [(0, zrf E 3)] [])) : G s.1 25 [(0, zrf E 3), (1, .int s.2)] [] := by
  refine zloop_walk (P := fun s => G s.1 25 [(0, zrf E 3), (1, .int s.2)] []) hk (fun s hk => ?_)
  unfold f_X0_keepStaged_L25 at hk
  refine zr_iload_n h dX0_keepStaged_25 1 rfl rfl ?_
  refine zr_aload_n h dX0_keepStaged_26 0 rfl rfl ?_
  refine zr_getI h zfo_X0_33 lC_3 rfl dX0_keepStaged_27 ?_
  refine zr_icmp_ge (tgt := 95) h dX0_keepStaged_30 (by decide) (fun c => ?_) (fun c => ?_)
  · have hk := zOk_t c hk
    have hk := zOk_some hk
    exact zr_weak h [0] rfl hk
  · have hk := zOk_f c hk
    refine zr_iload_n h dX0_keepStaged_33 1 rfl rfl ?_
    refine zr_istore_n (L' := [(0, zrf E 3), (1, .int s.2), (2, .int s.2)]) h [1, 2, 0] dX0_keepStaged_34 rfl (by decide) rfl ?_
    refine w_X0_keepStaged_L35 h s.2 (s.1, s.2) (zOk_mono (zOk_bind hk) (fun e35 hk => ?_))
    obtain ⟨x1_89, ex⟩ : ∃ y : Int32, y = s.2 + (zI 1) := ⟨_, rfl⟩
    have hk := zOk_bnd ex hk
    refine zr_iinc (v := x1_89) (L' := [(0, zrf E 3), (1, .int x1_89)]) h 1 [1, 0] dX0_keepStaged_89 rfl (by rw [ex]; rfl) (by decide) rfl ?_
    refine zr_goto (tgt := 25) h dX0_keepStaged_92 (by decide) ?_
    have hk := zOk_some hk
    exact zr_weak h [0, 1] rfl hk
noncomputable def f_X0_keepStaged (M : ZMem) : Option ZMem := zbnd (zstI M 3 7 (M.1 3 8)) (fun M_5 => zchk (zcp (zI 0) (zI 0) (zI 20) 20 20) (zbnd (zstF M_5 4 (va_cpy (M_5.1 5) (M_5.1 4) (zix (zI 0)) (zix (zI 0)) (zix (zI 20)))) (fun M_20 => zbind (zloop (f_X0_keepStaged_L25) (M_20, (zI 0))) (fun e25 => zbind (f_X0_growTree e25) (fun M_96 => some M_96)))))
set_option maxRecDepth 100000 in
set_option maxHeartbeats 4000000 in
theorem c_X0_keepStaged (E : ZEv) (M : ZMem) (K : ZMem → Prop) (hk : zOk (f_X0_keepStaged M) K) : zCon lyC E yX0_keepStaged cX0_keepStaged 4 none 2 [zrf E 3] M (zRv K) := by
  refine zcon_of (L0 := [(0, zrf E 3)]) (by decide) rfl (Nat.le_of_ble_eq_true rfl) (fun G h => ?_)
  have h : zRu lyC E G (zRv K) cX0_keepStaged RX0 4 none 2 := h
  unfold f_X0_keepStaged at hk
  refine zr_aload_n h dX0_keepStaged_0 0 rfl rfl ?_
  refine zr_aload_n h dX0_keepStaged_1 0 rfl rfl ?_
  refine zr_getI h zfo_X0_40 lC_3 rfl dX0_keepStaged_2 ?_
  refine zr_putI h zfp_X0_33 lC_3 rfl dX0_keepStaged_5 ?_
  refine zr_mem (fun M_5 eM => ?_)
  have hk := zOk_bnd eM hk
  refine zr_aload_n h dX0_keepStaged_8 0 rfl rfl ?_
  refine zr_getR h zfo_X0_15 lC_3 rfl dX0_keepStaged_9 ?_
  refine zr_iconst (v := (zI 0)) h dX0_keepStaged_12 rfl ?_
  refine zr_aload_n h dX0_keepStaged_13 0 rfl rfl ?_
  refine zr_getR h zfo_X0_9 lC_3 rfl dX0_keepStaged_14 ?_
  refine zr_iconst (v := (zI 0)) h dX0_keepStaged_17 rfl ?_
  refine zr_bipush (v := (zI 20)) h dX0_keepStaged_18 (by decide) ?_
  have hb := zOk_chk hk
  have hk := hb.2
  refine zr_copyi h zac_X0_76 lC_5 lC_4 hb.1 (Nat.le_of_ble_eq_true rfl) dX0_keepStaged_20 ?_
  refine zr_mem (fun M_20 eM => ?_)
  have hk := zOk_bnd eM hk
  refine zr_iconst (v := (zI 0)) h dX0_keepStaged_23 rfl ?_
  refine zr_istore_n (L' := [(0, zrf E 3), (1, .int (zI 0))]) h [1, 0] dX0_keepStaged_24 rfl (by decide) rfl ?_
  refine w_X0_keepStaged_L25 h (M_20, (zI 0)) (zOk_mono (zOk_bind hk) (fun e25 hk => ?_))
  refine zr_aload_n h dX0_keepStaged_95 0 rfl rfl ?_
  refine zr_callVv h lC_3 zcw_X0_85 (by decide) (c_X0_growTree E e25 _ (zOk_bind hk)) rfl rfl (Nat.le_of_ble_eq_true rfl) dX0_keepStaged_96 (fun M_96 hk => ?_)
  have hk := zOk_some hk
  exact zr_vret h dX0_keepStaged_99 ⟨rfl, hk⟩
theorem dX0_takeNumber_0 : decode cX0_takeNumber 0 = .ok (.iconst 0, 1) := by decide +kernel
theorem dX0_takeNumber_1 : decode cX0_takeNumber 1 = .ok (.istore_n 2, 1) := by decide +kernel
theorem dX0_takeNumber_2 : decode cX0_takeNumber 2 = .ok (.aload_n 0, 1) := by decide +kernel
theorem dX0_takeNumber_3 : decode cX0_takeNumber 3 = .ok (.getfield 37, 3) := by decide +kernel
theorem dX0_takeNumber_6 : decode cX0_takeNumber 6 = .ok (.sipush 300, 3) := by decide +kernel
theorem dX0_takeNumber_9 : decode cX0_takeNumber 9 = .ok (.if_icmp .ge 64, 3) := by decide +kernel
theorem dX0_takeNumber_12 : decode cX0_takeNumber 12 = .ok (.aload_n 1, 1) := by decide +kernel
theorem dX0_takeNumber_13 : decode cX0_takeNumber 13 = .ok (.aload_n 0, 1) := by decide +kernel
theorem dX0_takeNumber_14 : decode cX0_takeNumber 14 = .ok (.getfield 37, 3) := by decide +kernel
theorem dX0_takeNumber_17 : decode cX0_takeNumber 17 = .ok (.invokevirtual 47, 3) := by decide +kernel
theorem dX0_takeNumber_20 : decode cX0_takeNumber 20 = .ok (.bipush 48, 2) := by decide +kernel
theorem dX0_takeNumber_22 : decode cX0_takeNumber 22 = .ok (.if_icmp .lt 51, 3) := by decide +kernel
theorem dX0_takeNumber_25 : decode cX0_takeNumber 25 = .ok (.aload_n 1, 1) := by decide +kernel
theorem dX0_takeNumber_26 : decode cX0_takeNumber 26 = .ok (.aload_n 0, 1) := by decide +kernel
theorem dX0_takeNumber_27 : decode cX0_takeNumber 27 = .ok (.getfield 37, 3) := by decide +kernel
theorem dX0_takeNumber_30 : decode cX0_takeNumber 30 = .ok (.invokevirtual 47, 3) := by decide +kernel
theorem dX0_takeNumber_33 : decode cX0_takeNumber 33 = .ok (.bipush 57, 2) := by decide +kernel
theorem dX0_takeNumber_35 : decode cX0_takeNumber 35 = .ok (.if_icmp .gt 38, 3) := by decide +kernel
theorem dX0_takeNumber_38 : decode cX0_takeNumber 38 = .ok (.bipush 32, 2) := by decide +kernel
theorem dX0_takeNumber_40 : decode cX0_takeNumber 40 = .ok (.iload_n 2, 1) := by decide +kernel
theorem dX0_takeNumber_41 : decode cX0_takeNumber 41 = .ok (.bipush 10, 2) := by decide +kernel
theorem dX0_takeNumber_43 : decode cX0_takeNumber 43 = .ok (.imul, 1) := by decide +kernel
theorem dX0_takeNumber_44 : decode cX0_takeNumber 44 = .ok (.aload_n 1, 1) := by decide +kernel
theorem dX0_takeNumber_45 : decode cX0_takeNumber 45 = .ok (.aload_n 0, 1) := by decide +kernel
theorem dX0_takeNumber_46 : decode cX0_takeNumber 46 = .ok (.getfield 37, 3) := by decide +kernel
theorem dX0_takeNumber_49 : decode cX0_takeNumber 49 = .ok (.invokevirtual 47, 3) := by decide +kernel
theorem dX0_takeNumber_52 : decode cX0_takeNumber 52 = .ok (.iadd, 1) := by decide +kernel
theorem dX0_takeNumber_53 : decode cX0_takeNumber 53 = .ok (.bipush 48, 2) := by decide +kernel
theorem dX0_takeNumber_55 : decode cX0_takeNumber 55 = .ok (.isub, 1) := by decide +kernel
theorem dX0_takeNumber_56 : decode cX0_takeNumber 56 = .ok (.invokestatic 71, 3) := by decide +kernel
theorem dX0_takeNumber_59 : decode cX0_takeNumber 59 = .ok (.istore_n 2, 1) := by decide +kernel
theorem dX0_takeNumber_60 : decode cX0_takeNumber 60 = .ok (.aload_n 0, 1) := by decide +kernel
theorem dX0_takeNumber_61 : decode cX0_takeNumber 61 = .ok (.dup, 1) := by decide +kernel
theorem dX0_takeNumber_62 : decode cX0_takeNumber 62 = .ok (.getfield 37, 3) := by decide +kernel
theorem dX0_takeNumber_65 : decode cX0_takeNumber 65 = .ok (.iconst 1, 1) := by decide +kernel
theorem dX0_takeNumber_66 : decode cX0_takeNumber 66 = .ok (.iadd, 1) := by decide +kernel
theorem dX0_takeNumber_67 : decode cX0_takeNumber 67 = .ok (.putfield 37, 3) := by decide +kernel
theorem dX0_takeNumber_70 : decode cX0_takeNumber 70 = .ok (.goto (-68), 3) := by decide +kernel
theorem dX0_takeNumber_73 : decode cX0_takeNumber 73 = .ok (.iload_n 2, 1) := by decide +kernel
theorem dX0_takeNumber_74 : decode cX0_takeNumber 74 = .ok (.ireturn, 1) := by decide +kernel
noncomputable def f_X0_takeNumber_L2 (s : (ZMem × Int32)) : Option ((ZMem × Int32) ⊕ (ZMem × Int32)) := if (zI 300) ≤ (s.1.1 3 9) then some (.inr (s.1, s.2)) else zbind (f_X8_byteAt s.1 (s.1.1 3 9)) (fun r_17 => if r_17 < (zI 48) then some (.inr (s.1, s.2)) else zbind (f_X8_byteAt s.1 (s.1.1 3 9)) (fun r_30 => if (zI 57) < r_30 then some (.inr (s.1, s.2)) else zbind (f_X8_byteAt s.1 (s.1.1 3 9)) (fun r_49 => zbnd (if (((s.2 * (zI 10)) + r_49) - (zI 48)) < (zI 32) then (((s.2 * (zI 10)) + r_49) - (zI 48)) else (zI 32)) (fun x2_59 => zbnd (zstI s.1 3 9 ((s.1.1 3 9) + (zI 1))) (fun M_67 => some (.inl (M_67, x2_59)))))))
set_option maxRecDepth 100000 in
set_option maxHeartbeats 4000000 in
theorem w_X0_takeNumber_L2 {E : ZEv} {G : ZG} {K : (ZMem × Int32) → Prop} (h : zRu lyC E G (zRm K) cX0_takeNumber RX0 3 (some .int) 1) (s : (ZMem × Int32)) (hk : zOk (zloop (f_X0_takeNumber_L2) s) (fun e => G e.1 73 [(2, .int e.2)] [])) : G s.1 2 [(0, zrf E 3), (1, zrf E 1), (2, .int s.2)] [] := by
  refine zloop_walk (P := fun s => G s.1 2 [(0, zrf E 3), (1, zrf E 1), (2, .int s.2)] []) hk (fun s hk => ?_)
  unfold f_X0_takeNumber_L2 at hk
  refine zr_aload_n h dX0_takeNumber_2 0 rfl rfl ?_
  refine zr_getI h zfo_X0_37 lC_3 rfl dX0_takeNumber_3 ?_
  refine zr_sipush (v := (zI 300)) h dX0_takeNumber_6 (by decide) ?_
  refine zr_icmp_ge (tgt := 73) h dX0_takeNumber_9 (by decide) (fun c => ?_) (fun c => ?_)
  · have hk := zOk_t c hk
    have hk := zOk_some hk
    exact zr_weak h [2] rfl hk
  · have hk := zOk_f c hk
    refine zr_aload_n h dX0_takeNumber_12 1 rfl rfl ?_
    refine zr_aload_n h dX0_takeNumber_13 0 rfl rfl ?_
    refine zr_getI h zfo_X0_37 lC_3 rfl dX0_takeNumber_14 ?_
    refine zr_callVp h lC_1 zcw_X0_47 (by decide) (c_X8_byteAt E s.1 (s.1.1 3 9) _ (zOk_bind hk)) rfl rfl (Nat.le_of_ble_eq_true rfl) dX0_takeNumber_17 (fun r_17 hk => ?_)
    refine zr_bipush (v := (zI 48)) h dX0_takeNumber_20 (by decide) ?_
    refine zr_icmp_lt (tgt := 73) h dX0_takeNumber_22 (by decide) (fun c => ?_) (fun c => ?_)
    · have hk := zOk_t c hk
      have hk := zOk_some hk
      exact zr_weak h [2] rfl hk
    · have hk := zOk_f c hk
      refine zr_aload_n h dX0_takeNumber_25 1 rfl rfl ?_
      refine zr_aload_n h dX0_takeNumber_26 0 rfl rfl ?_
      refine zr_getI h zfo_X0_37 lC_3 rfl dX0_takeNumber_27 ?_
      refine zr_callVp h lC_1 zcw_X0_47 (by decide) (c_X8_byteAt E s.1 (s.1.1 3 9) _ (zOk_bind hk)) rfl rfl (Nat.le_of_ble_eq_true rfl) dX0_takeNumber_30 (fun r_30 hk => ?_)
      refine zr_bipush (v := (zI 57)) h dX0_takeNumber_33 (by decide) ?_
      refine zr_icmp_gt (tgt := 73) h dX0_takeNumber_35 (by decide) (fun c => ?_) (fun c => ?_)
      · have hk := zOk_t c hk
        have hk := zOk_some hk
        exact zr_weak h [2] rfl hk
      · have hk := zOk_f c hk
        refine zr_bipush (v := (zI 32)) h dX0_takeNumber_38 (by decide) ?_
        refine zr_iload_n h dX0_takeNumber_40 2 rfl rfl ?_
        refine zr_bipush (v := (zI 10)) h dX0_takeNumber_41 (by decide) ?_
        refine zr_imul h dX0_takeNumber_43 ?_
        refine zr_aload_n h dX0_takeNumber_44 1 rfl rfl ?_
        refine zr_aload_n h dX0_takeNumber_45 0 rfl rfl ?_
        refine zr_getI h zfo_X0_37 lC_3 rfl dX0_takeNumber_46 ?_
        refine zr_callVp h lC_1 zcw_X0_47 (by decide) (c_X8_byteAt E s.1 (s.1.1 3 9) _ (zOk_bind hk)) rfl rfl (Nat.le_of_ble_eq_true rfl) dX0_takeNumber_49 (fun r_49 hk => ?_)
        refine zr_iadd h dX0_takeNumber_52 ?_
        refine zr_bipush (v := (zI 48)) h dX0_takeNumber_53 (by decide) ?_
        refine zr_isub h dX0_takeNumber_55 ?_
        refine zr_mmin h (zm_12 _ (List.mem_of_getElem? (i := 10) rfl)) (zm_12 _ (List.mem_of_getElem? (i := 11) rfl)) (zm_12 _ (List.mem_of_getElem? (i := 12) rfl)) (zm_12 _ (List.mem_of_getElem? (i := 13) rfl)) (Nat.le_of_ble_eq_true rfl) dX0_takeNumber_56 ?_
        refine zr_topi (fun x2_59 ex => ?_)
        have hk := zOk_bnd ex hk
        refine zr_istore_n (L' := [(0, zrf E 3), (1, zrf E 1), (2, .int x2_59)]) h [1, 2, 0] dX0_takeNumber_59 rfl (by decide) rfl ?_
        refine zr_aload_n h dX0_takeNumber_60 0 rfl rfl ?_
        refine zr_dup h dX0_takeNumber_61 rfl ?_
        refine zr_getI h zfo_X0_37 lC_3 rfl dX0_takeNumber_62 ?_
        refine zr_iconst (v := (zI 1)) h dX0_takeNumber_65 rfl ?_
        refine zr_iadd h dX0_takeNumber_66 ?_
        refine zr_putI h zfp_X0_37 lC_3 rfl dX0_takeNumber_67 ?_
        refine zr_mem (fun M_67 eM => ?_)
        have hk := zOk_bnd eM hk
        refine zr_goto (tgt := 2) h dX0_takeNumber_70 (by decide) ?_
        have hk := zOk_some hk
        exact zr_weak h [0, 1, 2] rfl hk
noncomputable def f_X0_takeNumber (M : ZMem) : Option (ZMem × Int32) := zbind (zloop (f_X0_takeNumber_L2) (M, (zI 0))) (fun e2 => some (e2.1, e2.2))
set_option maxRecDepth 100000 in
set_option maxHeartbeats 4000000 in
theorem c_X0_takeNumber (E : ZEv) (M : ZMem) (K : ZMem × Int32 → Prop) (hk : zOk (f_X0_takeNumber M) K) : zCon lyC E yX0_takeNumber cX0_takeNumber 3 (some .int) 1 [zrf E 3, zrf E 1] M (zRm K) := by
  refine zcon_of (L0 := [(0, zrf E 3), (1, zrf E 1)]) (by decide) rfl (Nat.le_of_ble_eq_true rfl) (fun G h => ?_)
  have h : zRu lyC E G (zRm K) cX0_takeNumber RX0 3 (some .int) 1 := h
  unfold f_X0_takeNumber at hk
  refine zr_iconst (v := (zI 0)) h dX0_takeNumber_0 rfl ?_
  refine zr_istore_n (L' := [(0, zrf E 3), (1, zrf E 1), (2, .int (zI 0))]) h [1, 2, 0] dX0_takeNumber_1 rfl (by decide) rfl ?_
  refine w_X0_takeNumber_L2 h (M, (zI 0)) (zOk_mono (zOk_bind hk) (fun e2 hk => ?_))
  refine zr_iload_n h dX0_takeNumber_73 0 rfl rfl ?_
  have hk := zOk_some hk
  exact zr_iret h dX0_takeNumber_74 ⟨_, rfl, hk⟩
theorem dX0_isStaged_0 : decode cX0_isStaged 0 = .ok (.iconst 0, 1) := by decide +kernel
theorem dX0_isStaged_1 : decode cX0_isStaged 1 = .ok (.istore_n 2, 1) := by decide +kernel
theorem dX0_isStaged_2 : decode cX0_isStaged 2 = .ok (.iload_n 2, 1) := by decide +kernel
theorem dX0_isStaged_3 : decode cX0_isStaged 3 = .ok (.aload_n 0, 1) := by decide +kernel
theorem dX0_isStaged_4 : decode cX0_isStaged 4 = .ok (.getfield 40, 3) := by decide +kernel
theorem dX0_isStaged_7 : decode cX0_isStaged 7 = .ok (.if_icmp .ge 21, 3) := by decide +kernel
theorem dX0_isStaged_10 : decode cX0_isStaged 10 = .ok (.aload_n 0, 1) := by decide +kernel
theorem dX0_isStaged_11 : decode cX0_isStaged 11 = .ok (.getfield 15, 3) := by decide +kernel
theorem dX0_isStaged_14 : decode cX0_isStaged 14 = .ok (.iload_n 2, 1) := by decide +kernel
theorem dX0_isStaged_15 : decode cX0_isStaged 15 = .ok (.iaload, 1) := by decide +kernel
theorem dX0_isStaged_16 : decode cX0_isStaged 16 = .ok (.iload_n 1, 1) := by decide +kernel
theorem dX0_isStaged_17 : decode cX0_isStaged 17 = .ok (.if_icmp .ne 5, 3) := by decide +kernel
theorem dX0_isStaged_20 : decode cX0_isStaged 20 = .ok (.iconst 1, 1) := by decide +kernel
theorem dX0_isStaged_21 : decode cX0_isStaged 21 = .ok (.ireturn, 1) := by decide +kernel
theorem dX0_isStaged_22 : decode cX0_isStaged 22 = .ok (.iinc 2 1, 3) := by decide +kernel
theorem dX0_isStaged_25 : decode cX0_isStaged 25 = .ok (.goto (-23), 3) := by decide +kernel
theorem dX0_isStaged_28 : decode cX0_isStaged 28 = .ok (.iconst 0, 1) := by decide +kernel
theorem dX0_isStaged_29 : decode cX0_isStaged 29 = .ok (.ireturn, 1) := by decide +kernel
noncomputable def f_X0_isStaged_L2 (M : ZMem) (x1 : Int32) (s : (Int32)) : Option ((Int32) ⊕ ((Unit) ⊕ Int32)) := if (M.1 3 8) ≤ s then some (.inr (.inl ())) else zchk (zin s 20) (if (M.1 5 (zix s)) = x1 then some (.inr (.inr (zI 1))) else zbnd (s + (zI 1)) (fun x2_22 => some (.inl x2_22)))
set_option maxRecDepth 100000 in
set_option maxHeartbeats 4000000 in
theorem w_X0_isStaged_L2 {E : ZEv} {G : ZG} {K : Int32 → Prop} (M : ZMem) (h : zRu lyC E G (zRp M K) cX0_isStaged RX0 3 (some .boolean) 0) (x1 : Int32) (s : (Int32)) (hk : zOk (zloop (f_X0_isStaged_L2 M x1) s) (fun e => zsel e (fun e0 => G M 28 [] []) (fun f0 => K f0))) : G M 2 [(0, zrf E 3), (1, .int x1), (2, .int s)] [] := by
  refine zloop_walk (P := fun s => G M 2 [(0, zrf E 3), (1, .int x1), (2, .int s)] []) hk (fun s hk => ?_)
  unfold f_X0_isStaged_L2 at hk
  refine zr_iload_n h dX0_isStaged_2 2 rfl rfl ?_
  refine zr_aload_n h dX0_isStaged_3 0 rfl rfl ?_
  refine zr_getI h zfo_X0_40 lC_3 rfl dX0_isStaged_4 ?_
  refine zr_icmp_ge (tgt := 28) h dX0_isStaged_7 (by decide) (fun c => ?_) (fun c => ?_)
  · have hk := zOk_t c hk
    have hk := zOk_some hk
    exact zr_weak h [] rfl hk
  · have hk := zOk_f c hk
    refine zr_aload_n h dX0_isStaged_10 0 rfl rfl ?_
    refine zr_getR h zfo_X0_15 lC_3 rfl dX0_isStaged_11 ?_
    refine zr_iload_n h dX0_isStaged_14 2 rfl rfl ?_
    have hb := zOk_chk hk
    have hk := hb.2
    refine zr_iald h lC_5 hb.1 dX0_isStaged_15 ?_
    refine zr_iload_n h dX0_isStaged_16 1 rfl rfl ?_
    refine zr_icmp_ne (tgt := 22) h dX0_isStaged_17 (by decide) (fun c => ?_) (fun c => ?_)
    · have hk := zOk_t c hk
      refine zr_iconst (v := (zI 1)) h dX0_isStaged_20 rfl ?_
      have hk := zOk_some hk
      exact zr_zret h dX0_isStaged_21 (by decide) ⟨rfl, _, rfl, hk⟩
    · have hk := zOk_f c hk
      obtain ⟨x2_22, ex⟩ : ∃ y : Int32, y = s + (zI 1) := ⟨_, rfl⟩
      have hk := zOk_bnd ex hk
      refine zr_iinc (v := x2_22) (L' := [(0, zrf E 3), (1, .int x1), (2, .int x2_22)]) h 2 [1, 2, 0] dX0_isStaged_22 rfl (by rw [ex]; rfl) (by decide) rfl ?_
      refine zr_goto (tgt := 2) h dX0_isStaged_25 (by decide) ?_
      have hk := zOk_some hk
      exact zr_weak h [0, 1, 2] rfl hk
noncomputable def f_X0_isStaged (M : ZMem) (x1 : Int32) : Option Int32 := zbind (zloop (f_X0_isStaged_L2 M x1) (zI 0)) (fun e2 => zsel e2 (fun e2a => some (zI 0)) (fun e2b => some e2b))
set_option maxRecDepth 100000 in
set_option maxHeartbeats 4000000 in
theorem c_X0_isStaged (E : ZEv) (M : ZMem) (x1 : Int32) (K : Int32 → Prop) (hk : zOk (f_X0_isStaged M x1) K) : zCon lyC E yX0_isStaged cX0_isStaged 3 (some .boolean) 0 [zrf E 3, .int x1] M (zRp M K) := by
  refine zcon_of (L0 := [(0, zrf E 3), (1, .int x1)]) (by decide) rfl (Nat.le_of_ble_eq_true rfl) (fun G h => ?_)
  have h : zRu lyC E G (zRp M K) cX0_isStaged RX0 3 (some .boolean) 0 := h
  unfold f_X0_isStaged at hk
  refine zr_iconst (v := (zI 0)) h dX0_isStaged_0 rfl ?_
  refine zr_istore_n (L' := [(0, zrf E 3), (1, .int x1), (2, .int (zI 0))]) h [1, 2, 0] dX0_isStaged_1 rfl (by decide) rfl ?_
  refine w_X0_isStaged_L2 M h x1 (zI 0) (zOk_mono (zOk_bind hk) (fun e2 hk => ?_))
  cases e2 with
  | inl e2a =>
    have hk := zOk_selL hk
    refine zr_iconst (v := (zI 0)) h dX0_isStaged_28 rfl ?_
    have hk := zOk_some hk
    exact zr_zret h dX0_isStaged_29 (by decide) ⟨rfl, _, rfl, hk⟩
  | inr e2b =>
    have hk := zOk_selR hk
    have hk := zOk_some hk
    exact hk
theorem dX0_stageForm_0 : decode cX0_stageForm 0 = .ok (.aload_n 0, 1) := by decide +kernel
theorem dX0_stageForm_1 : decode cX0_stageForm 1 = .ok (.getfield 37, 3) := by decide +kernel
theorem dX0_stageForm_4 : decode cX0_stageForm 4 = .ok (.istore_n 2, 1) := by decide +kernel
theorem dX0_stageForm_5 : decode cX0_stageForm 5 = .ok (.iconst 0, 1) := by decide +kernel
theorem dX0_stageForm_6 : decode cX0_stageForm 6 = .ok (.istore_n 3, 1) := by decide +kernel
theorem dX0_stageForm_7 : decode cX0_stageForm 7 = .ok (.iconst 0, 1) := by decide +kernel
theorem dX0_stageForm_8 : decode cX0_stageForm 8 = .ok (.istore 4, 2) := by decide +kernel
theorem dX0_stageForm_10 : decode cX0_stageForm 10 = .ok (.iload 4, 2) := by decide +kernel
theorem dX0_stageForm_12 : decode cX0_stageForm 12 = .ok (.iconst 5, 1) := by decide +kernel
theorem dX0_stageForm_13 : decode cX0_stageForm 13 = .ok (.if_icmp .ge 83, 3) := by decide +kernel
theorem dX0_stageForm_16 : decode cX0_stageForm 16 = .ok (.aload_n 0, 1) := by decide +kernel
theorem dX0_stageForm_17 : decode cX0_stageForm 17 = .ok (.aload_n 1, 1) := by decide +kernel
theorem dX0_stageForm_18 : decode cX0_stageForm 18 = .ok (.invokevirtual 43, 3) := by decide +kernel
theorem dX0_stageForm_21 : decode cX0_stageForm 21 = .ok (.aload_n 0, 1) := by decide +kernel
theorem dX0_stageForm_22 : decode cX0_stageForm 22 = .ok (.getfield 37, 3) := by decide +kernel
theorem dX0_stageForm_25 : decode cX0_stageForm 25 = .ok (.istore 5, 2) := by decide +kernel
theorem dX0_stageForm_27 : decode cX0_stageForm 27 = .ok (.aload_n 0, 1) := by decide +kernel
theorem dX0_stageForm_28 : decode cX0_stageForm 28 = .ok (.aload_n 1, 1) := by decide +kernel
theorem dX0_stageForm_29 : decode cX0_stageForm 29 = .ok (.invokevirtual 60, 3) := by decide +kernel
theorem dX0_stageForm_32 : decode cX0_stageForm 32 = .ok (.istore 6, 2) := by decide +kernel
theorem dX0_stageForm_34 : decode cX0_stageForm 34 = .ok (.aload_n 0, 1) := by decide +kernel
theorem dX0_stageForm_35 : decode cX0_stageForm 35 = .ok (.getfield 37, 3) := by decide +kernel
theorem dX0_stageForm_38 : decode cX0_stageForm 38 = .ok (.iload 5, 2) := by decide +kernel
theorem dX0_stageForm_40 : decode cX0_stageForm 40 = .ok (.if_icmp .ne 12, 3) := by decide +kernel
theorem dX0_stageForm_43 : decode cX0_stageForm 43 = .ok (.aload_n 0, 1) := by decide +kernel
theorem dX0_stageForm_44 : decode cX0_stageForm 44 = .ok (.getfield 37, 3) := by decide +kernel
theorem dX0_stageForm_47 : decode cX0_stageForm 47 = .ok (.iconst 1, 1) := by decide +kernel
theorem dX0_stageForm_48 : decode cX0_stageForm 48 = .ok (.invokestatic 63, 3) := by decide +kernel
theorem dX0_stageForm_51 : decode cX0_stageForm 51 = .ok (.ireturn, 1) := by decide +kernel
theorem dX0_stageForm_52 : decode cX0_stageForm 52 = .ok (.iload 6, 2) := by decide +kernel
theorem dX0_stageForm_54 : decode cX0_stageForm 54 = .ok (.bipush 31, 2) := by decide +kernel
theorem dX0_stageForm_56 : decode cX0_stageForm 56 = .ok (.if_icmp .le 10, 3) := by decide +kernel
theorem dX0_stageForm_59 : decode cX0_stageForm 59 = .ok (.iload 5, 2) := by decide +kernel
theorem dX0_stageForm_61 : decode cX0_stageForm 61 = .ok (.iconst 2, 1) := by decide +kernel
theorem dX0_stageForm_62 : decode cX0_stageForm 62 = .ok (.invokestatic 63, 3) := by decide +kernel
theorem dX0_stageForm_65 : decode cX0_stageForm 65 = .ok (.ireturn, 1) := by decide +kernel
theorem dX0_stageForm_66 : decode cX0_stageForm 66 = .ok (.aload_n 0, 1) := by decide +kernel
theorem dX0_stageForm_67 : decode cX0_stageForm 67 = .ok (.getfield 40, 3) := by decide +kernel
theorem dX0_stageForm_70 : decode cX0_stageForm 70 = .ok (.bipush 20, 2) := by decide +kernel
theorem dX0_stageForm_72 : decode cX0_stageForm 72 = .ok (.if_icmp .lt 10, 3) := by decide +kernel
theorem dX0_stageForm_75 : decode cX0_stageForm 75 = .ok (.iload 5, 2) := by decide +kernel
theorem dX0_stageForm_77 : decode cX0_stageForm 77 = .ok (.iconst 3, 1) := by decide +kernel
theorem dX0_stageForm_78 : decode cX0_stageForm 78 = .ok (.invokestatic 63, 3) := by decide +kernel
theorem dX0_stageForm_81 : decode cX0_stageForm 81 = .ok (.ireturn, 1) := by decide +kernel
theorem dX0_stageForm_82 : decode cX0_stageForm 82 = .ok (.iload_n 3, 1) := by decide +kernel
theorem dX0_stageForm_83 : decode cX0_stageForm 83 = .ok (.bipush 32, 2) := by decide +kernel
theorem dX0_stageForm_85 : decode cX0_stageForm 85 = .ok (.imul, 1) := by decide +kernel
theorem dX0_stageForm_86 : decode cX0_stageForm 86 = .ok (.iload 6, 2) := by decide +kernel
theorem dX0_stageForm_88 : decode cX0_stageForm 88 = .ok (.iadd, 1) := by decide +kernel
theorem dX0_stageForm_89 : decode cX0_stageForm 89 = .ok (.istore_n 3, 1) := by decide +kernel
theorem dX0_stageForm_90 : decode cX0_stageForm 90 = .ok (.iinc 4 1, 3) := by decide +kernel
theorem dX0_stageForm_93 : decode cX0_stageForm 93 = .ok (.goto (-83), 3) := by decide +kernel
theorem dX0_stageForm_96 : decode cX0_stageForm 96 = .ok (.aload_n 0, 1) := by decide +kernel
theorem dX0_stageForm_97 : decode cX0_stageForm 97 = .ok (.aload_n 1, 1) := by decide +kernel
theorem dX0_stageForm_98 : decode cX0_stageForm 98 = .ok (.invokevirtual 43, 3) := by decide +kernel
theorem dX0_stageForm_101 : decode cX0_stageForm 101 = .ok (.aload_n 1, 1) := by decide +kernel
theorem dX0_stageForm_102 : decode cX0_stageForm 102 = .ok (.aload_n 0, 1) := by decide +kernel
theorem dX0_stageForm_103 : decode cX0_stageForm 103 = .ok (.getfield 37, 3) := by decide +kernel
theorem dX0_stageForm_106 : decode cX0_stageForm 106 = .ok (.invokevirtual 47, 3) := by decide +kernel
theorem dX0_stageForm_109 : decode cX0_stageForm 109 = .ok (.bipush 59, 2) := by decide +kernel
theorem dX0_stageForm_111 : decode cX0_stageForm 111 = .ok (.if_icmp .eq 12, 3) := by decide +kernel
theorem dX0_stageForm_114 : decode cX0_stageForm 114 = .ok (.aload_n 0, 1) := by decide +kernel
theorem dX0_stageForm_115 : decode cX0_stageForm 115 = .ok (.getfield 37, 3) := by decide +kernel
theorem dX0_stageForm_118 : decode cX0_stageForm 118 = .ok (.iconst 1, 1) := by decide +kernel
theorem dX0_stageForm_119 : decode cX0_stageForm 119 = .ok (.invokestatic 63, 3) := by decide +kernel
theorem dX0_stageForm_122 : decode cX0_stageForm 122 = .ok (.ireturn, 1) := by decide +kernel
theorem dX0_stageForm_123 : decode cX0_stageForm 123 = .ok (.aload_n 0, 1) := by decide +kernel
theorem dX0_stageForm_124 : decode cX0_stageForm 124 = .ok (.dup, 1) := by decide +kernel
theorem dX0_stageForm_125 : decode cX0_stageForm 125 = .ok (.getfield 37, 3) := by decide +kernel
theorem dX0_stageForm_128 : decode cX0_stageForm 128 = .ok (.iconst 1, 1) := by decide +kernel
theorem dX0_stageForm_129 : decode cX0_stageForm 129 = .ok (.iadd, 1) := by decide +kernel
theorem dX0_stageForm_130 : decode cX0_stageForm 130 = .ok (.putfield 37, 3) := by decide +kernel
theorem dX0_stageForm_133 : decode cX0_stageForm 133 = .ok (.aload_n 0, 1) := by decide +kernel
theorem dX0_stageForm_134 : decode cX0_stageForm 134 = .ok (.iload_n 3, 1) := by decide +kernel
theorem dX0_stageForm_135 : decode cX0_stageForm 135 = .ok (.invokevirtual 67, 3) := by decide +kernel
theorem dX0_stageForm_138 : decode cX0_stageForm 138 = .ok (.ifCond .eq 9, 3) := by decide +kernel
theorem dX0_stageForm_141 : decode cX0_stageForm 141 = .ok (.iload_n 2, 1) := by decide +kernel
theorem dX0_stageForm_142 : decode cX0_stageForm 142 = .ok (.iconst 4, 1) := by decide +kernel
theorem dX0_stageForm_143 : decode cX0_stageForm 143 = .ok (.invokestatic 63, 3) := by decide +kernel
theorem dX0_stageForm_146 : decode cX0_stageForm 146 = .ok (.ireturn, 1) := by decide +kernel
theorem dX0_stageForm_147 : decode cX0_stageForm 147 = .ok (.aload_n 0, 1) := by decide +kernel
theorem dX0_stageForm_148 : decode cX0_stageForm 148 = .ok (.getfield 15, 3) := by decide +kernel
theorem dX0_stageForm_151 : decode cX0_stageForm 151 = .ok (.aload_n 0, 1) := by decide +kernel
theorem dX0_stageForm_152 : decode cX0_stageForm 152 = .ok (.getfield 40, 3) := by decide +kernel
theorem dX0_stageForm_155 : decode cX0_stageForm 155 = .ok (.iload_n 3, 1) := by decide +kernel
theorem dX0_stageForm_156 : decode cX0_stageForm 156 = .ok (.iastore, 1) := by decide +kernel
theorem dX0_stageForm_157 : decode cX0_stageForm 157 = .ok (.aload_n 0, 1) := by decide +kernel
theorem dX0_stageForm_158 : decode cX0_stageForm 158 = .ok (.dup, 1) := by decide +kernel
theorem dX0_stageForm_159 : decode cX0_stageForm 159 = .ok (.getfield 40, 3) := by decide +kernel
theorem dX0_stageForm_162 : decode cX0_stageForm 162 = .ok (.iconst 1, 1) := by decide +kernel
theorem dX0_stageForm_163 : decode cX0_stageForm 163 = .ok (.iadd, 1) := by decide +kernel
theorem dX0_stageForm_164 : decode cX0_stageForm 164 = .ok (.putfield 40, 3) := by decide +kernel
theorem dX0_stageForm_167 : decode cX0_stageForm 167 = .ok (.iconst 0, 1) := by decide +kernel
theorem dX0_stageForm_168 : decode cX0_stageForm 168 = .ok (.ireturn, 1) := by decide +kernel
noncomputable def f_X0_stageForm_L10 (x2 : Int32) (s : (ZMem × Int32 × Int32)) : Option ((ZMem × Int32 × Int32) ⊕ ((ZMem × Int32) ⊕ (ZMem × Int32))) := if (zI 5) ≤ s.2.2 then some (.inr (.inl (s.1, s.2.1))) else zbind (f_X0_skipBlanks s.1) (fun M_18 => zbnd (M_18.1 3 9) (fun x5_25 => zbind (f_X0_takeNumber M_18) (fun r_29 => if (r_29.1.1 3 9) = x5_25 then zbind (f_X11_faultAt r_29.1 (r_29.1.1 3 9) (zI 1)) (fun r_48 => some (.inr (.inr (r_29.1, r_48)))) else if r_29.2 ≤ (zI 31) then if (r_29.1.1 3 8) < (zI 20) then zbnd ((s.2.1 * (zI 32)) + r_29.2) (fun x3_89 => zbnd (s.2.2 + (zI 1)) (fun x4_90 => some (.inl (r_29.1, x3_89, x4_90)))) else zbind (f_X11_faultAt r_29.1 x5_25 (zI 3)) (fun r_78 => some (.inr (.inr (r_29.1, r_78)))) else zbind (f_X11_faultAt r_29.1 x5_25 (zI 2)) (fun r_62 => some (.inr (.inr (r_29.1, r_62)))))))
set_option maxRecDepth 100000 in
set_option maxHeartbeats 4000000 in
theorem w_X0_stageForm_L10 {E : ZEv} {G : ZG} {K : (ZMem × Int32) → Prop} (h : zRu lyC E G (zRm K) cX0_stageForm RX0 7 (some .int) 2) (x2 : Int32) (s : (ZMem × Int32 × Int32)) (hk : zOk (zloop (f_X0_stageForm_L10 x2) s) (fun e => zsel e (fun e0 => G e0.1 96 [(0, zrf E 3), (1, zrf E 1), (2, .int x2), (3, .int e0.2)] []) (fun f0 => K f0))) : G s.1 10 [(0, zrf E 3), (1, zrf E 1), (2, .int x2), (3, .int s.2.1), (4, .int s.2.2)] [] := by
  refine zloop_walk (P := fun s => G s.1 10 [(0, zrf E 3), (1, zrf E 1), (2, .int x2), (3, .int s.2.1), (4, .int s.2.2)] []) hk (fun s hk => ?_)
  unfold f_X0_stageForm_L10 at hk
  refine zr_iload h dX0_stageForm_10 4 rfl ?_
  refine zr_iconst (v := (zI 5)) h dX0_stageForm_12 rfl ?_
  refine zr_icmp_ge (tgt := 96) h dX0_stageForm_13 (by decide) (fun c => ?_) (fun c => ?_)
  · have hk := zOk_t c hk
    have hk := zOk_some hk
    exact zr_weak h [0, 1, 2, 3] rfl hk
  · have hk := zOk_f c hk
    refine zr_aload_n h dX0_stageForm_16 0 rfl rfl ?_
    refine zr_aload_n h dX0_stageForm_17 1 rfl rfl ?_
    refine zr_callVv h lC_3 zcw_X0_43 (by decide) (c_X0_skipBlanks E s.1 _ (zOk_bind hk)) rfl rfl (Nat.le_of_ble_eq_true rfl) dX0_stageForm_18 (fun M_18 hk => ?_)
    refine zr_aload_n h dX0_stageForm_21 0 rfl rfl ?_
    refine zr_getI h zfo_X0_37 lC_3 rfl dX0_stageForm_22 ?_
    refine zr_topi (fun x5_25 ex => ?_)
    have hk := zOk_bnd ex hk
    refine zr_istore (L' := [(0, zrf E 3), (1, zrf E 1), (2, .int x2), (3, .int s.2.1), (4, .int s.2.2), (5, .int x5_25)]) h [1, 2, 3, 4, 5, 0] dX0_stageForm_25 (by decide) rfl ?_
    refine zr_aload_n h dX0_stageForm_27 0 rfl rfl ?_
    refine zr_aload_n h dX0_stageForm_28 1 rfl rfl ?_
    refine zr_callVm h lC_3 zcw_X0_60 (by decide) (c_X0_takeNumber E M_18 _ (zOk_bind hk)) rfl rfl (Nat.le_of_ble_eq_true rfl) dX0_stageForm_29 (fun r_29 hk => ?_)
    refine zr_istore (L' := [(0, zrf E 3), (1, zrf E 1), (2, .int x2), (3, .int s.2.1), (4, .int s.2.2), (5, .int x5_25), (6, .int r_29.2)]) h [1, 2, 3, 4, 5, 6, 0] dX0_stageForm_32 (by decide) rfl ?_
    refine zr_aload_n h dX0_stageForm_34 0 rfl rfl ?_
    refine zr_getI h zfo_X0_37 lC_3 rfl dX0_stageForm_35 ?_
    refine zr_iload h dX0_stageForm_38 5 rfl ?_
    refine zr_icmp_ne (tgt := 52) h dX0_stageForm_40 (by decide) (fun c => ?_) (fun c => ?_)
    · have hk := zOk_t c hk
      refine zr_aload_n h dX0_stageForm_43 0 rfl rfl ?_
      refine zr_getI h zfo_X0_37 lC_3 rfl dX0_stageForm_44 ?_
      refine zr_iconst (v := (zI 1)) h dX0_stageForm_47 rfl ?_
      refine zr_callNp h zcw_X0_63 (by decide) (c_X11_faultAt E r_29.1 (r_29.1.1 3 9) (zI 1) _ (zOk_bind hk)) rfl rfl (Nat.le_of_ble_eq_true rfl) dX0_stageForm_48 (fun r_48 hk => ?_)
      have hk := zOk_some hk
      exact zr_iret h dX0_stageForm_51 ⟨_, rfl, hk⟩
    · have hk := zOk_f c hk
      refine zr_iload h dX0_stageForm_52 6 rfl ?_
      refine zr_bipush (v := (zI 31)) h dX0_stageForm_54 (by decide) ?_
      refine zr_icmp_le (tgt := 66) h dX0_stageForm_56 (by decide) (fun c => ?_) (fun c => ?_)
      · have hk := zOk_t c hk
        refine zr_aload_n h dX0_stageForm_66 0 rfl rfl ?_
        refine zr_getI h zfo_X0_40 lC_3 rfl dX0_stageForm_67 ?_
        refine zr_bipush (v := (zI 20)) h dX0_stageForm_70 (by decide) ?_
        refine zr_icmp_lt (tgt := 82) h dX0_stageForm_72 (by decide) (fun c => ?_) (fun c => ?_)
        · have hk := zOk_t c hk
          refine zr_iload_n h dX0_stageForm_82 3 rfl rfl ?_
          refine zr_bipush (v := (zI 32)) h dX0_stageForm_83 (by decide) ?_
          refine zr_imul h dX0_stageForm_85 ?_
          refine zr_iload h dX0_stageForm_86 6 rfl ?_
          refine zr_iadd h dX0_stageForm_88 ?_
          refine zr_topi (fun x3_89 ex => ?_)
          have hk := zOk_bnd ex hk
          refine zr_istore_n (L' := [(0, zrf E 3), (1, zrf E 1), (2, .int x2), (3, .int x3_89), (4, .int s.2.2)]) h [1, 2, 3, 0, 4] dX0_stageForm_89 rfl (by decide) rfl ?_
          obtain ⟨x4_90, ex⟩ : ∃ y : Int32, y = s.2.2 + (zI 1) := ⟨_, rfl⟩
          have hk := zOk_bnd ex hk
          refine zr_iinc (v := x4_90) (L' := [(0, zrf E 3), (1, zrf E 1), (2, .int x2), (3, .int x3_89), (4, .int x4_90)]) h 4 [1, 2, 3, 4, 0] dX0_stageForm_90 rfl (by rw [ex]; rfl) (by decide) rfl ?_
          refine zr_goto (tgt := 10) h dX0_stageForm_93 (by decide) ?_
          have hk := zOk_some hk
          exact zr_weak h [0, 1, 2, 3, 4] rfl hk
        · have hk := zOk_f c hk
          refine zr_iload h dX0_stageForm_75 5 rfl ?_
          refine zr_iconst (v := (zI 3)) h dX0_stageForm_77 rfl ?_
          refine zr_callNp h zcw_X0_63 (by decide) (c_X11_faultAt E r_29.1 x5_25 (zI 3) _ (zOk_bind hk)) rfl rfl (Nat.le_of_ble_eq_true rfl) dX0_stageForm_78 (fun r_78 hk => ?_)
          have hk := zOk_some hk
          exact zr_iret h dX0_stageForm_81 ⟨_, rfl, hk⟩
      · have hk := zOk_f c hk
        refine zr_iload h dX0_stageForm_59 5 rfl ?_
        refine zr_iconst (v := (zI 2)) h dX0_stageForm_61 rfl ?_
        refine zr_callNp h zcw_X0_63 (by decide) (c_X11_faultAt E r_29.1 x5_25 (zI 2) _ (zOk_bind hk)) rfl rfl (Nat.le_of_ble_eq_true rfl) dX0_stageForm_62 (fun r_62 hk => ?_)
        have hk := zOk_some hk
        exact zr_iret h dX0_stageForm_65 ⟨_, rfl, hk⟩
noncomputable def f_X0_stageForm (M : ZMem) : Option (ZMem × Int32) := zbnd (M.1 3 9) (fun x2_4 => zbind (zloop (f_X0_stageForm_L10 x2_4) (M, (zI 0), (zI 0))) (fun e10 => zsel e10 (fun e10a => zbind (f_X0_skipBlanks e10a.1) (fun M_98 => zbind (f_X8_byteAt M_98 (M_98.1 3 9)) (fun r_106 => if r_106 = (zI 59) then zbnd (zstI M_98 3 9 ((M_98.1 3 9) + (zI 1))) (fun M_130 => zbind (f_X0_isStaged M_130 e10a.2) (fun r_135 => if r_135 = (zI 0) then zchk (zin (M_130.1 3 8) 20) (zbnd (zstI M_130 5 (zix (M_130.1 3 8)) e10a.2) (fun M_156 => zbnd (zstI M_156 3 8 ((M_156.1 3 8) + (zI 1))) (fun M_164 => some (M_164, (zI 0))))) else zbind (f_X11_faultAt M_130 x2_4 (zI 4)) (fun r_143 => some (M_130, r_143)))) else zbind (f_X11_faultAt M_98 (M_98.1 3 9) (zI 1)) (fun r_119 => some (M_98, r_119))))) (fun e10b => some e10b)))
set_option maxRecDepth 100000 in
set_option maxHeartbeats 4000000 in
theorem c_X0_stageForm (E : ZEv) (M : ZMem) (K : ZMem × Int32 → Prop) (hk : zOk (f_X0_stageForm M) K) : zCon lyC E yX0_stageForm cX0_stageForm 7 (some .int) 2 [zrf E 3, zrf E 1] M (zRm K) := by
  refine zcon_of (L0 := [(0, zrf E 3), (1, zrf E 1)]) (by decide) rfl (Nat.le_of_ble_eq_true rfl) (fun G h => ?_)
  have h : zRu lyC E G (zRm K) cX0_stageForm RX0 7 (some .int) 2 := h
  unfold f_X0_stageForm at hk
  refine zr_aload_n h dX0_stageForm_0 0 rfl rfl ?_
  refine zr_getI h zfo_X0_37 lC_3 rfl dX0_stageForm_1 ?_
  refine zr_topi (fun x2_4 ex => ?_)
  have hk := zOk_bnd ex hk
  refine zr_istore_n (L' := [(0, zrf E 3), (1, zrf E 1), (2, .int x2_4)]) h [1, 2, 0] dX0_stageForm_4 rfl (by decide) rfl ?_
  refine zr_iconst (v := (zI 0)) h dX0_stageForm_5 rfl ?_
  refine zr_istore_n (L' := [(0, zrf E 3), (1, zrf E 1), (2, .int x2_4), (3, .int (zI 0))]) h [1, 2, 3, 0] dX0_stageForm_6 rfl (by decide) rfl ?_
  refine zr_iconst (v := (zI 0)) h dX0_stageForm_7 rfl ?_
  refine zr_istore (L' := [(0, zrf E 3), (1, zrf E 1), (2, .int x2_4), (3, .int (zI 0)), (4, .int (zI 0))]) h [1, 2, 3, 4, 0] dX0_stageForm_8 (by decide) rfl ?_
  refine w_X0_stageForm_L10 h x2_4 (M, (zI 0), (zI 0)) (zOk_mono (zOk_bind hk) (fun e10 hk => ?_))
  cases e10 with
  | inl e10a =>
    have hk := zOk_selL hk
    refine zr_aload_n h dX0_stageForm_96 0 rfl rfl ?_
    refine zr_aload_n h dX0_stageForm_97 1 rfl rfl ?_
    refine zr_callVv h lC_3 zcw_X0_43 (by decide) (c_X0_skipBlanks E e10a.1 _ (zOk_bind hk)) rfl rfl (Nat.le_of_ble_eq_true rfl) dX0_stageForm_98 (fun M_98 hk => ?_)
    refine zr_aload_n h dX0_stageForm_101 1 rfl rfl ?_
    refine zr_aload_n h dX0_stageForm_102 0 rfl rfl ?_
    refine zr_getI h zfo_X0_37 lC_3 rfl dX0_stageForm_103 ?_
    refine zr_callVp h lC_1 zcw_X0_47 (by decide) (c_X8_byteAt E M_98 (M_98.1 3 9) _ (zOk_bind hk)) rfl rfl (Nat.le_of_ble_eq_true rfl) dX0_stageForm_106 (fun r_106 hk => ?_)
    refine zr_bipush (v := (zI 59)) h dX0_stageForm_109 (by decide) ?_
    refine zr_icmp_eq (tgt := 123) h dX0_stageForm_111 (by decide) (fun c => ?_) (fun c => ?_)
    · have hk := zOk_t c hk
      refine zr_aload_n h dX0_stageForm_123 0 rfl rfl ?_
      refine zr_dup h dX0_stageForm_124 rfl ?_
      refine zr_getI h zfo_X0_37 lC_3 rfl dX0_stageForm_125 ?_
      refine zr_iconst (v := (zI 1)) h dX0_stageForm_128 rfl ?_
      refine zr_iadd h dX0_stageForm_129 ?_
      refine zr_putI h zfp_X0_37 lC_3 rfl dX0_stageForm_130 ?_
      refine zr_mem (fun M_130 eM => ?_)
      have hk := zOk_bnd eM hk
      refine zr_aload_n h dX0_stageForm_133 0 rfl rfl ?_
      refine zr_iload_n h dX0_stageForm_134 3 rfl rfl ?_
      refine zr_callVp h lC_3 zcw_X0_67 (by decide) (c_X0_isStaged E M_130 e10a.2 _ (zOk_bind hk)) rfl rfl (Nat.le_of_ble_eq_true rfl) dX0_stageForm_135 (fun r_135 hk => ?_)
      refine zr_if_eq (tgt := 147) h dX0_stageForm_138 (by decide) (fun c => ?_) (fun c => ?_)
      · have hk := zOk_t c hk
        refine zr_aload_n h dX0_stageForm_147 0 rfl rfl ?_
        refine zr_getR h zfo_X0_15 lC_3 rfl dX0_stageForm_148 ?_
        refine zr_aload_n h dX0_stageForm_151 0 rfl rfl ?_
        refine zr_getI h zfo_X0_40 lC_3 rfl dX0_stageForm_152 ?_
        refine zr_iload_n h dX0_stageForm_155 3 rfl rfl ?_
        have hb := zOk_chk hk
        have hk := hb.2
        refine zr_iast h lC_5 hb.1 dX0_stageForm_156 ?_
        refine zr_mem (fun M_156 eM => ?_)
        have hk := zOk_bnd eM hk
        refine zr_aload_n h dX0_stageForm_157 0 rfl rfl ?_
        refine zr_dup h dX0_stageForm_158 rfl ?_
        refine zr_getI h zfo_X0_40 lC_3 rfl dX0_stageForm_159 ?_
        refine zr_iconst (v := (zI 1)) h dX0_stageForm_162 rfl ?_
        refine zr_iadd h dX0_stageForm_163 ?_
        refine zr_putI h zfp_X0_40 lC_3 rfl dX0_stageForm_164 ?_
        refine zr_mem (fun M_164 eM => ?_)
        have hk := zOk_bnd eM hk
        refine zr_iconst (v := (zI 0)) h dX0_stageForm_167 rfl ?_
        have hk := zOk_some hk
        exact zr_iret h dX0_stageForm_168 ⟨_, rfl, hk⟩
      · have hk := zOk_f c hk
        refine zr_iload_n h dX0_stageForm_141 2 rfl rfl ?_
        refine zr_iconst (v := (zI 4)) h dX0_stageForm_142 rfl ?_
        refine zr_callNp h zcw_X0_63 (by decide) (c_X11_faultAt E M_130 x2_4 (zI 4) _ (zOk_bind hk)) rfl rfl (Nat.le_of_ble_eq_true rfl) dX0_stageForm_143 (fun r_143 hk => ?_)
        have hk := zOk_some hk
        exact zr_iret h dX0_stageForm_146 ⟨_, rfl, hk⟩
    · have hk := zOk_f c hk
      refine zr_aload_n h dX0_stageForm_114 0 rfl rfl ?_
      refine zr_getI h zfo_X0_37 lC_3 rfl dX0_stageForm_115 ?_
      refine zr_iconst (v := (zI 1)) h dX0_stageForm_118 rfl ?_
      refine zr_callNp h zcw_X0_63 (by decide) (c_X11_faultAt E M_98 (M_98.1 3 9) (zI 1) _ (zOk_bind hk)) rfl rfl (Nat.le_of_ble_eq_true rfl) dX0_stageForm_119 (fun r_119 hk => ?_)
      have hk := zOk_some hk
      exact zr_iret h dX0_stageForm_122 ⟨_, rfl, hk⟩
  | inr e10b =>
    have hk := zOk_selR hk
    have hk := zOk_some hk
    exact hk
theorem dX0_takeFrom_0 : decode cX0_takeFrom 0 = .ok (.aload_n 0, 1) := by decide +kernel
theorem dX0_takeFrom_1 : decode cX0_takeFrom 1 = .ok (.iconst 0, 1) := by decide +kernel
theorem dX0_takeFrom_2 : decode cX0_takeFrom 2 = .ok (.putfield 37, 3) := by decide +kernel
theorem dX0_takeFrom_5 : decode cX0_takeFrom 5 = .ok (.aload_n 0, 1) := by decide +kernel
theorem dX0_takeFrom_6 : decode cX0_takeFrom 6 = .ok (.iconst 0, 1) := by decide +kernel
theorem dX0_takeFrom_7 : decode cX0_takeFrom 7 = .ok (.putfield 40, 3) := by decide +kernel
theorem dX0_takeFrom_10 : decode cX0_takeFrom 10 = .ok (.iconst 0, 1) := by decide +kernel
theorem dX0_takeFrom_11 : decode cX0_takeFrom 11 = .ok (.istore_n 2, 1) := by decide +kernel
theorem dX0_takeFrom_12 : decode cX0_takeFrom 12 = .ok (.iconst 0, 1) := by decide +kernel
theorem dX0_takeFrom_13 : decode cX0_takeFrom 13 = .ok (.istore_n 3, 1) := by decide +kernel
theorem dX0_takeFrom_14 : decode cX0_takeFrom 14 = .ok (.iload_n 3, 1) := by decide +kernel
theorem dX0_takeFrom_15 : decode cX0_takeFrom 15 = .ok (.bipush 20, 2) := by decide +kernel
theorem dX0_takeFrom_17 : decode cX0_takeFrom 17 = .ok (.if_icmp .gt 45, 3) := by decide +kernel
theorem dX0_takeFrom_20 : decode cX0_takeFrom 20 = .ok (.iload_n 2, 1) := by decide +kernel
theorem dX0_takeFrom_21 : decode cX0_takeFrom 21 = .ok (.ifCond .ne 41, 3) := by decide +kernel
theorem dX0_takeFrom_24 : decode cX0_takeFrom 24 = .ok (.aload_n 0, 1) := by decide +kernel
theorem dX0_takeFrom_25 : decode cX0_takeFrom 25 = .ok (.aload_n 1, 1) := by decide +kernel
theorem dX0_takeFrom_26 : decode cX0_takeFrom 26 = .ok (.invokevirtual 43, 3) := by decide +kernel
theorem dX0_takeFrom_29 : decode cX0_takeFrom 29 = .ok (.aload_n 1, 1) := by decide +kernel
theorem dX0_takeFrom_30 : decode cX0_takeFrom 30 = .ok (.aload_n 0, 1) := by decide +kernel
theorem dX0_takeFrom_31 : decode cX0_takeFrom 31 = .ok (.getfield 37, 3) := by decide +kernel
theorem dX0_takeFrom_34 : decode cX0_takeFrom 34 = .ok (.invokevirtual 47, 3) := by decide +kernel
theorem dX0_takeFrom_37 : decode cX0_takeFrom 37 = .ok (.iconst (-1), 1) := by decide +kernel
theorem dX0_takeFrom_38 : decode cX0_takeFrom 38 = .ok (.if_icmp .ne 12, 3) := by decide +kernel
theorem dX0_takeFrom_41 : decode cX0_takeFrom 41 = .ok (.aload_n 0, 1) := by decide +kernel
theorem dX0_takeFrom_42 : decode cX0_takeFrom 42 = .ok (.invokevirtual 53, 3) := by decide +kernel
theorem dX0_takeFrom_45 : decode cX0_takeFrom 45 = .ok (.aload_n 0, 1) := by decide +kernel
theorem dX0_takeFrom_46 : decode cX0_takeFrom 46 = .ok (.getfield 33, 3) := by decide +kernel
theorem dX0_takeFrom_49 : decode cX0_takeFrom 49 = .ok (.ireturn, 1) := by decide +kernel
theorem dX0_takeFrom_50 : decode cX0_takeFrom 50 = .ok (.aload_n 0, 1) := by decide +kernel
theorem dX0_takeFrom_51 : decode cX0_takeFrom 51 = .ok (.aload_n 1, 1) := by decide +kernel
theorem dX0_takeFrom_52 : decode cX0_takeFrom 52 = .ok (.invokevirtual 56, 3) := by decide +kernel
theorem dX0_takeFrom_55 : decode cX0_takeFrom 55 = .ok (.istore_n 2, 1) := by decide +kernel
theorem dX0_takeFrom_56 : decode cX0_takeFrom 56 = .ok (.iinc 3 1, 3) := by decide +kernel
theorem dX0_takeFrom_59 : decode cX0_takeFrom 59 = .ok (.goto (-45), 3) := by decide +kernel
theorem dX0_takeFrom_62 : decode cX0_takeFrom 62 = .ok (.iload_n 2, 1) := by decide +kernel
theorem dX0_takeFrom_63 : decode cX0_takeFrom 63 = .ok (.ireturn, 1) := by decide +kernel
noncomputable def f_X0_takeFrom_L14 (s : (ZMem × Int32 × Int32)) : Option ((ZMem × Int32 × Int32) ⊕ ((ZMem × Int32) ⊕ (ZMem × Int32))) := if (zI 20) < s.2.2 then some (.inr (.inl (s.1, s.2.1))) else if s.2.1 = (zI 0) then zbind (f_X0_skipBlanks s.1) (fun M_26 => zbind (f_X8_byteAt M_26 (M_26.1 3 9)) (fun r_34 => if r_34 = (zI (-1)) then zbind (f_X0_keepStaged M_26) (fun M_42 => some (.inr (.inr (M_42, (M_42.1 3 7))))) else zbind (f_X0_stageForm M_26) (fun r_52 => zbnd (s.2.2 + (zI 1)) (fun x3_56 => some (.inl (r_52.1, r_52.2, x3_56)))))) else some (.inr (.inl (s.1, s.2.1)))
set_option maxRecDepth 100000 in
set_option maxHeartbeats 4000000 in
theorem w_X0_takeFrom_L14 {E : ZEv} {G : ZG} {K : (ZMem × Int32) → Prop} (h : zRu lyC E G (zRm K) cX0_takeFrom RX0 4 (some .int) 3) (s : (ZMem × Int32 × Int32)) (hk : zOk (zloop (f_X0_takeFrom_L14) s) (fun e => zsel e (fun e0 => G e0.1 62 [(2, .int e0.2)] []) (fun f0 => K f0))) : G s.1 14 [(0, zrf E 3), (1, zrf E 1), (2, .int s.2.1), (3, .int s.2.2)] [] := by
  refine zloop_walk (P := fun s => G s.1 14 [(0, zrf E 3), (1, zrf E 1), (2, .int s.2.1), (3, .int s.2.2)] []) hk (fun s hk => ?_)
  unfold f_X0_takeFrom_L14 at hk
  refine zr_iload_n h dX0_takeFrom_14 3 rfl rfl ?_
  refine zr_bipush (v := (zI 20)) h dX0_takeFrom_15 (by decide) ?_
  refine zr_icmp_gt (tgt := 62) h dX0_takeFrom_17 (by decide) (fun c => ?_) (fun c => ?_)
  · have hk := zOk_t c hk
    have hk := zOk_some hk
    exact zr_weak h [2] rfl hk
  · have hk := zOk_f c hk
    refine zr_iload_n h dX0_takeFrom_20 2 rfl rfl ?_
    refine zr_if_ne (tgt := 62) h dX0_takeFrom_21 (by decide) (fun c => ?_) (fun c => ?_)
    · have hk := zOk_t c hk
      refine zr_aload_n h dX0_takeFrom_24 0 rfl rfl ?_
      refine zr_aload_n h dX0_takeFrom_25 1 rfl rfl ?_
      refine zr_callVv h lC_3 zcw_X0_43 (by decide) (c_X0_skipBlanks E s.1 _ (zOk_bind hk)) rfl rfl (Nat.le_of_ble_eq_true rfl) dX0_takeFrom_26 (fun M_26 hk => ?_)
      refine zr_aload_n h dX0_takeFrom_29 1 rfl rfl ?_
      refine zr_aload_n h dX0_takeFrom_30 0 rfl rfl ?_
      refine zr_getI h zfo_X0_37 lC_3 rfl dX0_takeFrom_31 ?_
      refine zr_callVp h lC_1 zcw_X0_47 (by decide) (c_X8_byteAt E M_26 (M_26.1 3 9) _ (zOk_bind hk)) rfl rfl (Nat.le_of_ble_eq_true rfl) dX0_takeFrom_34 (fun r_34 hk => ?_)
      refine zr_iconst (v := (zI (-1))) h dX0_takeFrom_37 rfl ?_
      refine zr_icmp_ne (tgt := 50) h dX0_takeFrom_38 (by decide) (fun c => ?_) (fun c => ?_)
      · have hk := zOk_t c hk
        refine zr_aload_n h dX0_takeFrom_41 0 rfl rfl ?_
        refine zr_callVv h lC_3 zcw_X0_53 (by decide) (c_X0_keepStaged E M_26 _ (zOk_bind hk)) rfl rfl (Nat.le_of_ble_eq_true rfl) dX0_takeFrom_42 (fun M_42 hk => ?_)
        refine zr_aload_n h dX0_takeFrom_45 0 rfl rfl ?_
        refine zr_getI h zfo_X0_33 lC_3 rfl dX0_takeFrom_46 ?_
        have hk := zOk_some hk
        exact zr_iret h dX0_takeFrom_49 ⟨_, rfl, hk⟩
      · have hk := zOk_f c hk
        refine zr_aload_n h dX0_takeFrom_50 0 rfl rfl ?_
        refine zr_aload_n h dX0_takeFrom_51 1 rfl rfl ?_
        refine zr_callVm h lC_3 zcw_X0_56 (by decide) (c_X0_stageForm E M_26 _ (zOk_bind hk)) rfl rfl (Nat.le_of_ble_eq_true rfl) dX0_takeFrom_52 (fun r_52 hk => ?_)
        refine zr_istore_n (L' := [(0, zrf E 3), (1, zrf E 1), (2, .int r_52.2), (3, .int s.2.2)]) h [1, 2, 0, 3] dX0_takeFrom_55 rfl (by decide) rfl ?_
        obtain ⟨x3_56, ex⟩ : ∃ y : Int32, y = s.2.2 + (zI 1) := ⟨_, rfl⟩
        have hk := zOk_bnd ex hk
        refine zr_iinc (v := x3_56) (L' := [(0, zrf E 3), (1, zrf E 1), (2, .int r_52.2), (3, .int x3_56)]) h 3 [1, 2, 3, 0] dX0_takeFrom_56 rfl (by rw [ex]; rfl) (by decide) rfl ?_
        refine zr_goto (tgt := 14) h dX0_takeFrom_59 (by decide) ?_
        have hk := zOk_some hk
        exact zr_weak h [0, 1, 2, 3] rfl hk
    · have hk := zOk_f c hk
      have hk := zOk_some hk
      exact zr_weak h [2] rfl hk
noncomputable def f_X0_takeFrom (M : ZMem) : Option (ZMem × Int32) := zbnd (zstI M 3 9 (zI 0)) (fun M_2 => zbnd (zstI M_2 3 8 (zI 0)) (fun M_7 => zbind (zloop (f_X0_takeFrom_L14) (M_7, (zI 0), (zI 0))) (fun e14 => zsel e14 (fun e14a => some (e14a.1, e14a.2)) (fun e14b => some e14b))))
set_option maxRecDepth 100000 in
set_option maxHeartbeats 4000000 in
theorem c_X0_takeFrom (E : ZEv) (M : ZMem) (K : ZMem × Int32 → Prop) (hk : zOk (f_X0_takeFrom M) K) : zCon lyC E yX0_takeFrom cX0_takeFrom 4 (some .int) 3 [zrf E 3, zrf E 1] M (zRm K) := by
  refine zcon_of (L0 := [(0, zrf E 3), (1, zrf E 1)]) (by decide) rfl (Nat.le_of_ble_eq_true rfl) (fun G h => ?_)
  have h : zRu lyC E G (zRm K) cX0_takeFrom RX0 4 (some .int) 3 := h
  unfold f_X0_takeFrom at hk
  refine zr_aload_n h dX0_takeFrom_0 0 rfl rfl ?_
  refine zr_iconst (v := (zI 0)) h dX0_takeFrom_1 rfl ?_
  refine zr_putI h zfp_X0_37 lC_3 rfl dX0_takeFrom_2 ?_
  refine zr_mem (fun M_2 eM => ?_)
  have hk := zOk_bnd eM hk
  refine zr_aload_n h dX0_takeFrom_5 0 rfl rfl ?_
  refine zr_iconst (v := (zI 0)) h dX0_takeFrom_6 rfl ?_
  refine zr_putI h zfp_X0_40 lC_3 rfl dX0_takeFrom_7 ?_
  refine zr_mem (fun M_7 eM => ?_)
  have hk := zOk_bnd eM hk
  refine zr_iconst (v := (zI 0)) h dX0_takeFrom_10 rfl ?_
  refine zr_istore_n (L' := [(0, zrf E 3), (1, zrf E 1), (2, .int (zI 0))]) h [1, 2, 0] dX0_takeFrom_11 rfl (by decide) rfl ?_
  refine zr_iconst (v := (zI 0)) h dX0_takeFrom_12 rfl ?_
  refine zr_istore_n (L' := [(0, zrf E 3), (1, zrf E 1), (2, .int (zI 0)), (3, .int (zI 0))]) h [1, 2, 3, 0] dX0_takeFrom_13 rfl (by decide) rfl ?_
  refine w_X0_takeFrom_L14 h (M_7, (zI 0), (zI 0)) (zOk_mono (zOk_bind hk) (fun e14 hk => ?_))
  cases e14 with
  | inl e14a =>
    have hk := zOk_selL hk
    refine zr_iload_n h dX0_takeFrom_62 0 rfl rfl ?_
    have hk := zOk_some hk
    exact zr_iret h dX0_takeFrom_63 ⟨_, rfl, hk⟩
  | inr e14b =>
    have hk := zOk_selR hk
    have hk := zOk_some hk
    exact hk
theorem dX0_unlikeOf_0 : decode cX0_unlikeOf 0 = .ok (.aload_n 0, 1) := by decide +kernel
theorem dX0_unlikeOf_1 : decode cX0_unlikeOf 1 = .ok (.iload_n 1, 1) := by decide +kernel
theorem dX0_unlikeOf_2 : decode cX0_unlikeOf 2 = .ok (.invokevirtual 113, 3) := by decide +kernel
theorem dX0_unlikeOf_5 : decode cX0_unlikeOf 5 = .ok (.ifCond .eq 25, 3) := by decide +kernel
theorem dX0_unlikeOf_8 : decode cX0_unlikeOf 8 = .ok (.aload_n 0, 1) := by decide +kernel
theorem dX0_unlikeOf_9 : decode cX0_unlikeOf 9 = .ok (.iload_n 2, 1) := by decide +kernel
theorem dX0_unlikeOf_10 : decode cX0_unlikeOf 10 = .ok (.invokevirtual 113, 3) := by decide +kernel
theorem dX0_unlikeOf_13 : decode cX0_unlikeOf 13 = .ok (.ifCond .eq 17, 3) := by decide +kernel
theorem dX0_unlikeOf_16 : decode cX0_unlikeOf 16 = .ok (.aload_n 0, 1) := by decide +kernel
theorem dX0_unlikeOf_17 : decode cX0_unlikeOf 17 = .ok (.getfield 18, 3) := by decide +kernel
theorem dX0_unlikeOf_20 : decode cX0_unlikeOf 20 = .ok (.iload_n 1, 1) := by decide +kernel
theorem dX0_unlikeOf_21 : decode cX0_unlikeOf 21 = .ok (.bipush 20, 2) := by decide +kernel
theorem dX0_unlikeOf_23 : decode cX0_unlikeOf 23 = .ok (.imul, 1) := by decide +kernel
theorem dX0_unlikeOf_24 : decode cX0_unlikeOf 24 = .ok (.iload_n 2, 1) := by decide +kernel
theorem dX0_unlikeOf_25 : decode cX0_unlikeOf 25 = .ok (.iadd, 1) := by decide +kernel
theorem dX0_unlikeOf_26 : decode cX0_unlikeOf 26 = .ok (.iaload, 1) := by decide +kernel
theorem dX0_unlikeOf_27 : decode cX0_unlikeOf 27 = .ok (.goto 4, 3) := by decide +kernel
theorem dX0_unlikeOf_30 : decode cX0_unlikeOf 30 = .ok (.iconst (-1), 1) := by decide +kernel
theorem dX0_unlikeOf_31 : decode cX0_unlikeOf 31 = .ok (.ireturn, 1) := by decide +kernel
noncomputable def f_X0_unlikeOf (M : ZMem) (x1 : Int32) (x2 : Int32) : Option Int32 := zbind (f_X0_has M x1) (fun r_2 => if r_2 = (zI 0) then some (zI (-1)) else zbind (f_X0_has M x2) (fun r_10 => if r_10 = (zI 0) then some (zI (-1)) else zchk (zin ((x1 * (zI 20)) + x2) 400) (some (M.1 6 (zix ((x1 * (zI 20)) + x2))))))
set_option maxRecDepth 100000 in
set_option maxHeartbeats 4000000 in
theorem c_X0_unlikeOf (E : ZEv) (M : ZMem) (x1 : Int32) (x2 : Int32) (K : Int32 → Prop) (hk : zOk (f_X0_unlikeOf M x1 x2) K) : zCon lyC E yX0_unlikeOf cX0_unlikeOf 3 (some .int) 1 [zrf E 3, .int x1, .int x2] M (zRp M K) := by
  refine zcon_of (L0 := [(0, zrf E 3), (1, .int x1), (2, .int x2)]) (by decide) rfl (Nat.le_of_ble_eq_true rfl) (fun G h => ?_)
  have h : zRu lyC E G (zRp M K) cX0_unlikeOf RX0 3 (some .int) 1 := h
  unfold f_X0_unlikeOf at hk
  refine zr_aload_n h dX0_unlikeOf_0 0 rfl rfl ?_
  refine zr_iload_n h dX0_unlikeOf_1 1 rfl rfl ?_
  refine zr_callVp h lC_3 zcw_X0_113 (by decide) (c_X0_has E M x1 _ (zOk_bind hk)) rfl rfl (Nat.le_of_ble_eq_true rfl) dX0_unlikeOf_2 (fun r_2 hk => ?_)
  refine zr_if_eq (tgt := 30) h dX0_unlikeOf_5 (by decide) (fun c => ?_) (fun c => ?_)
  · have hk := zOk_t c hk
    refine zr_iconst (v := (zI (-1))) h dX0_unlikeOf_30 rfl ?_
    have hk := zOk_some hk
    exact zr_iret h dX0_unlikeOf_31 ⟨rfl, _, rfl, hk⟩
  · have hk := zOk_f c hk
    refine zr_aload_n h dX0_unlikeOf_8 0 rfl rfl ?_
    refine zr_iload_n h dX0_unlikeOf_9 2 rfl rfl ?_
    refine zr_callVp h lC_3 zcw_X0_113 (by decide) (c_X0_has E M x2 _ (zOk_bind hk)) rfl rfl (Nat.le_of_ble_eq_true rfl) dX0_unlikeOf_10 (fun r_10 hk => ?_)
    refine zr_if_eq (tgt := 30) h dX0_unlikeOf_13 (by decide) (fun c => ?_) (fun c => ?_)
    · have hk := zOk_t c hk
      refine zr_iconst (v := (zI (-1))) h dX0_unlikeOf_30 rfl ?_
      have hk := zOk_some hk
      exact zr_iret h dX0_unlikeOf_31 ⟨rfl, _, rfl, hk⟩
    · have hk := zOk_f c hk
      refine zr_aload_n h dX0_unlikeOf_16 0 rfl rfl ?_
      refine zr_getR h zfo_X0_18 lC_3 rfl dX0_unlikeOf_17 ?_
      refine zr_iload_n h dX0_unlikeOf_20 1 rfl rfl ?_
      refine zr_bipush (v := (zI 20)) h dX0_unlikeOf_21 (by decide) ?_
      refine zr_imul h dX0_unlikeOf_23 ?_
      refine zr_iload_n h dX0_unlikeOf_24 2 rfl rfl ?_
      refine zr_iadd h dX0_unlikeOf_25 ?_
      have hb := zOk_chk hk
      have hk := hb.2
      refine zr_iald h lC_6 hb.1 dX0_unlikeOf_26 ?_
      refine zr_goto (tgt := 31) h dX0_unlikeOf_27 (by decide) ?_
      have hk := zOk_some hk
      exact zr_iret h dX0_unlikeOf_31 ⟨rfl, _, rfl, hk⟩
theorem dX0_treeAt_0 : decode cX0_treeAt 0 = .ok (.iload_n 1, 1) := by decide +kernel
theorem dX0_treeAt_1 : decode cX0_treeAt 1 = .ok (.ifCond .lt 20, 3) := by decide +kernel
theorem dX0_treeAt_4 : decode cX0_treeAt 4 = .ok (.iload_n 1, 1) := by decide +kernel
theorem dX0_treeAt_5 : decode cX0_treeAt 5 = .ok (.aload_n 0, 1) := by decide +kernel
theorem dX0_treeAt_6 : decode cX0_treeAt 6 = .ok (.getfield 98, 3) := by decide +kernel
theorem dX0_treeAt_9 : decode cX0_treeAt 9 = .ok (.if_icmp .ge 12, 3) := by decide +kernel
theorem dX0_treeAt_12 : decode cX0_treeAt 12 = .ok (.iload_n 2, 1) := by decide +kernel
theorem dX0_treeAt_13 : decode cX0_treeAt 13 = .ok (.ifCond .lt 8, 3) := by decide +kernel
theorem dX0_treeAt_16 : decode cX0_treeAt 16 = .ok (.iload_n 2, 1) := by decide +kernel
theorem dX0_treeAt_17 : decode cX0_treeAt 17 = .ok (.iconst 2, 1) := by decide +kernel
theorem dX0_treeAt_18 : decode cX0_treeAt 18 = .ok (.if_icmp .le 5, 3) := by decide +kernel
theorem dX0_treeAt_21 : decode cX0_treeAt 21 = .ok (.iconst (-1), 1) := by decide +kernel
theorem dX0_treeAt_22 : decode cX0_treeAt 22 = .ok (.ireturn, 1) := by decide +kernel
theorem dX0_treeAt_23 : decode cX0_treeAt 23 = .ok (.aload_n 0, 1) := by decide +kernel
theorem dX0_treeAt_24 : decode cX0_treeAt 24 = .ok (.getfield 21, 3) := by decide +kernel
theorem dX0_treeAt_27 : decode cX0_treeAt 27 = .ok (.iload_n 1, 1) := by decide +kernel
theorem dX0_treeAt_28 : decode cX0_treeAt 28 = .ok (.iconst 2, 1) := by decide +kernel
theorem dX0_treeAt_29 : decode cX0_treeAt 29 = .ok (.imul, 1) := by decide +kernel
theorem dX0_treeAt_30 : decode cX0_treeAt 30 = .ok (.iaload, 1) := by decide +kernel
theorem dX0_treeAt_31 : decode cX0_treeAt 31 = .ok (.istore_n 3, 1) := by decide +kernel
theorem dX0_treeAt_32 : decode cX0_treeAt 32 = .ok (.aload_n 0, 1) := by decide +kernel
theorem dX0_treeAt_33 : decode cX0_treeAt 33 = .ok (.getfield 21, 3) := by decide +kernel
theorem dX0_treeAt_36 : decode cX0_treeAt 36 = .ok (.iload_n 1, 1) := by decide +kernel
theorem dX0_treeAt_37 : decode cX0_treeAt 37 = .ok (.iconst 2, 1) := by decide +kernel
theorem dX0_treeAt_38 : decode cX0_treeAt 38 = .ok (.imul, 1) := by decide +kernel
theorem dX0_treeAt_39 : decode cX0_treeAt 39 = .ok (.iconst 1, 1) := by decide +kernel
theorem dX0_treeAt_40 : decode cX0_treeAt 40 = .ok (.iadd, 1) := by decide +kernel
theorem dX0_treeAt_41 : decode cX0_treeAt 41 = .ok (.iaload, 1) := by decide +kernel
theorem dX0_treeAt_42 : decode cX0_treeAt 42 = .ok (.istore 4, 2) := by decide +kernel
theorem dX0_treeAt_44 : decode cX0_treeAt 44 = .ok (.iload_n 2, 1) := by decide +kernel
theorem dX0_treeAt_45 : decode cX0_treeAt 45 = .ok (.ifCond .ne 11, 3) := by decide +kernel
theorem dX0_treeAt_48 : decode cX0_treeAt 48 = .ok (.aload_n 0, 1) := by decide +kernel
theorem dX0_treeAt_49 : decode cX0_treeAt 49 = .ok (.iload_n 3, 1) := by decide +kernel
theorem dX0_treeAt_50 : decode cX0_treeAt 50 = .ok (.iload 4, 2) := by decide +kernel
theorem dX0_treeAt_52 : decode cX0_treeAt 52 = .ok (.invokevirtual 116, 3) := by decide +kernel
theorem dX0_treeAt_55 : decode cX0_treeAt 55 = .ok (.ireturn, 1) := by decide +kernel
theorem dX0_treeAt_56 : decode cX0_treeAt 56 = .ok (.iload_n 2, 1) := by decide +kernel
theorem dX0_treeAt_57 : decode cX0_treeAt 57 = .ok (.iconst 1, 1) := by decide +kernel
theorem dX0_treeAt_58 : decode cX0_treeAt 58 = .ok (.if_icmp .ne 7, 3) := by decide +kernel
theorem dX0_treeAt_61 : decode cX0_treeAt 61 = .ok (.iload_n 3, 1) := by decide +kernel
theorem dX0_treeAt_62 : decode cX0_treeAt 62 = .ok (.goto 5, 3) := by decide +kernel
theorem dX0_treeAt_65 : decode cX0_treeAt 65 = .ok (.iload 4, 2) := by decide +kernel
theorem dX0_treeAt_67 : decode cX0_treeAt 67 = .ok (.ireturn, 1) := by decide +kernel
noncomputable def f_X0_treeAt (M : ZMem) (x1 : Int32) (x2 : Int32) : Option Int32 := if x1 < (zI 0) then some (zI (-1)) else if (M.1 3 10) ≤ x1 then some (zI (-1)) else if x2 < (zI 0) then some (zI (-1)) else if x2 ≤ (zI 2) then zchk (zin (x1 * (zI 2)) 40) (zbnd (M.1 7 (zix (x1 * (zI 2)))) (fun x3_31 => zchk (zin ((x1 * (zI 2)) + (zI 1)) 40) (zbnd (M.1 7 (zix ((x1 * (zI 2)) + (zI 1)))) (fun x4_42 => if x2 = (zI 0) then zbind (f_X0_unlikeOf M x3_31 x4_42) (fun r_52 => some r_52) else if x2 = (zI 1) then some x3_31 else some x4_42)))) else some (zI (-1))
set_option maxRecDepth 100000 in
set_option maxHeartbeats 4000000 in
theorem c_X0_treeAt (E : ZEv) (M : ZMem) (x1 : Int32) (x2 : Int32) (K : Int32 → Prop) (hk : zOk (f_X0_treeAt M x1 x2) K) : zCon lyC E yX0_treeAt cX0_treeAt 5 (some .int) 2 [zrf E 3, .int x1, .int x2] M (zRp M K) := by
  refine zcon_of (L0 := [(0, zrf E 3), (1, .int x1), (2, .int x2)]) (by decide) rfl (Nat.le_of_ble_eq_true rfl) (fun G h => ?_)
  have h : zRu lyC E G (zRp M K) cX0_treeAt RX0 5 (some .int) 2 := h
  unfold f_X0_treeAt at hk
  refine zr_iload_n h dX0_treeAt_0 1 rfl rfl ?_
  refine zr_if_lt (tgt := 21) h dX0_treeAt_1 (by decide) (fun c => ?_) (fun c => ?_)
  · have hk := zOk_t c hk
    refine zr_iconst (v := (zI (-1))) h dX0_treeAt_21 rfl ?_
    have hk := zOk_some hk
    exact zr_iret h dX0_treeAt_22 ⟨rfl, _, rfl, hk⟩
  · have hk := zOk_f c hk
    refine zr_iload_n h dX0_treeAt_4 1 rfl rfl ?_
    refine zr_aload_n h dX0_treeAt_5 0 rfl rfl ?_
    refine zr_getI h zfo_X0_98 lC_3 rfl dX0_treeAt_6 ?_
    refine zr_icmp_ge (tgt := 21) h dX0_treeAt_9 (by decide) (fun c => ?_) (fun c => ?_)
    · have hk := zOk_t c hk
      refine zr_iconst (v := (zI (-1))) h dX0_treeAt_21 rfl ?_
      have hk := zOk_some hk
      exact zr_iret h dX0_treeAt_22 ⟨rfl, _, rfl, hk⟩
    · have hk := zOk_f c hk
      refine zr_iload_n h dX0_treeAt_12 2 rfl rfl ?_
      refine zr_if_lt (tgt := 21) h dX0_treeAt_13 (by decide) (fun c => ?_) (fun c => ?_)
      · have hk := zOk_t c hk
        refine zr_iconst (v := (zI (-1))) h dX0_treeAt_21 rfl ?_
        have hk := zOk_some hk
        exact zr_iret h dX0_treeAt_22 ⟨rfl, _, rfl, hk⟩
      · have hk := zOk_f c hk
        refine zr_iload_n h dX0_treeAt_16 2 rfl rfl ?_
        refine zr_iconst (v := (zI 2)) h dX0_treeAt_17 rfl ?_
        refine zr_icmp_le (tgt := 23) h dX0_treeAt_18 (by decide) (fun c => ?_) (fun c => ?_)
        · have hk := zOk_t c hk
          refine zr_aload_n h dX0_treeAt_23 0 rfl rfl ?_
          refine zr_getR h zfo_X0_21 lC_3 rfl dX0_treeAt_24 ?_
          refine zr_iload_n h dX0_treeAt_27 1 rfl rfl ?_
          refine zr_iconst (v := (zI 2)) h dX0_treeAt_28 rfl ?_
          refine zr_imul h dX0_treeAt_29 ?_
          have hb := zOk_chk hk
          have hk := hb.2
          refine zr_iald h lC_7 hb.1 dX0_treeAt_30 ?_
          refine zr_topi (fun x3_31 ex => ?_)
          have hk := zOk_bnd ex hk
          refine zr_istore_n (L' := [(0, zrf E 3), (1, .int x1), (2, .int x2), (3, .int x3_31)]) h [1, 2, 3, 0] dX0_treeAt_31 rfl (by decide) rfl ?_
          refine zr_aload_n h dX0_treeAt_32 0 rfl rfl ?_
          refine zr_getR h zfo_X0_21 lC_3 rfl dX0_treeAt_33 ?_
          refine zr_iload_n h dX0_treeAt_36 1 rfl rfl ?_
          refine zr_iconst (v := (zI 2)) h dX0_treeAt_37 rfl ?_
          refine zr_imul h dX0_treeAt_38 ?_
          refine zr_iconst (v := (zI 1)) h dX0_treeAt_39 rfl ?_
          refine zr_iadd h dX0_treeAt_40 ?_
          have hb := zOk_chk hk
          have hk := hb.2
          refine zr_iald h lC_7 hb.1 dX0_treeAt_41 ?_
          refine zr_topi (fun x4_42 ex => ?_)
          have hk := zOk_bnd ex hk
          refine zr_istore (L' := [(0, zrf E 3), (2, .int x2), (3, .int x3_31), (4, .int x4_42)]) h [1, 3, 4, 0] dX0_treeAt_42 (by decide) rfl ?_
          refine zr_iload_n h dX0_treeAt_44 1 rfl rfl ?_
          refine zr_if_ne (tgt := 56) h dX0_treeAt_45 (by decide) (fun c => ?_) (fun c => ?_)
          · have hk := zOk_t c hk
            refine zr_aload_n h dX0_treeAt_48 0 rfl rfl ?_
            refine zr_iload_n h dX0_treeAt_49 2 rfl rfl ?_
            refine zr_iload h dX0_treeAt_50 3 rfl ?_
            refine zr_callVp h lC_3 zcw_X0_116 (by decide) (c_X0_unlikeOf E M x3_31 x4_42 _ (zOk_bind hk)) rfl rfl (Nat.le_of_ble_eq_true rfl) dX0_treeAt_52 (fun r_52 hk => ?_)
            have hk := zOk_some hk
            exact zr_iret h dX0_treeAt_55 ⟨rfl, _, rfl, hk⟩
          · have hk := zOk_f c hk
            refine zr_iload_n h dX0_treeAt_56 1 rfl rfl ?_
            refine zr_iconst (v := (zI 1)) h dX0_treeAt_57 rfl ?_
            refine zr_icmp_ne (tgt := 65) h dX0_treeAt_58 (by decide) (fun c => ?_) (fun c => ?_)
            · have hk := zOk_t c hk
              refine zr_iload_n h dX0_treeAt_61 2 rfl rfl ?_
              refine zr_goto (tgt := 67) h dX0_treeAt_62 (by decide) ?_
              have hk := zOk_some hk
              exact zr_iret h dX0_treeAt_67 ⟨rfl, _, rfl, hk⟩
            · have hk := zOk_f c hk
              refine zr_iload h dX0_treeAt_65 3 rfl ?_
              have hk := zOk_some hk
              exact zr_iret h dX0_treeAt_67 ⟨rfl, _, rfl, hk⟩
        · have hk := zOk_f c hk
          refine zr_iconst (v := (zI (-1))) h dX0_treeAt_21 rfl ?_
          have hk := zOk_some hk
          exact zr_iret h dX0_treeAt_22 ⟨rfl, _, rfl, hk⟩
theorem dX0_linked_0 : decode cX0_linked 0 = .ok (.aload_n 3, 1) := by decide +kernel
theorem dX0_linked_1 : decode cX0_linked 1 = .ok (.iload_n 1, 1) := by decide +kernel
theorem dX0_linked_2 : decode cX0_linked 2 = .ok (.iload_n 2, 1) := by decide +kernel
theorem dX0_linked_3 : decode cX0_linked 3 = .ok (.invokevirtual 135, 3) := by decide +kernel
theorem dX0_linked_6 : decode cX0_linked 6 = .ok (.istore 4, 2) := by decide +kernel
theorem dX0_linked_8 : decode cX0_linked 8 = .ok (.iload 4, 2) := by decide +kernel
theorem dX0_linked_10 : decode cX0_linked 10 = .ok (.iconst 1, 1) := by decide +kernel
theorem dX0_linked_11 : decode cX0_linked 11 = .ok (.if_icmp .eq 23, 3) := by decide +kernel
theorem dX0_linked_14 : decode cX0_linked 14 = .ok (.iload 4, 2) := by decide +kernel
theorem dX0_linked_16 : decode cX0_linked 16 = .ok (.iconst 2, 1) := by decide +kernel
theorem dX0_linked_17 : decode cX0_linked 17 = .ok (.if_icmp .eq 21, 3) := by decide +kernel
theorem dX0_linked_20 : decode cX0_linked 20 = .ok (.aload_n 0, 1) := by decide +kernel
theorem dX0_linked_21 : decode cX0_linked 21 = .ok (.iload_n 1, 1) := by decide +kernel
theorem dX0_linked_22 : decode cX0_linked 22 = .ok (.iload_n 2, 1) := by decide +kernel
theorem dX0_linked_23 : decode cX0_linked 23 = .ok (.invokevirtual 116, 3) := by decide +kernel
theorem dX0_linked_26 : decode cX0_linked 26 = .ok (.aload_n 3, 1) := by decide +kernel
theorem dX0_linked_27 : decode cX0_linked 27 = .ok (.iconst 0, 1) := by decide +kernel
theorem dX0_linked_28 : decode cX0_linked 28 = .ok (.invokevirtual 140, 3) := by decide +kernel
theorem dX0_linked_31 : decode cX0_linked 31 = .ok (.if_icmp .gt 7, 3) := by decide +kernel
theorem dX0_linked_34 : decode cX0_linked 34 = .ok (.iconst 1, 1) := by decide +kernel
theorem dX0_linked_35 : decode cX0_linked 35 = .ok (.goto 4, 3) := by decide +kernel
theorem dX0_linked_38 : decode cX0_linked 38 = .ok (.iconst 0, 1) := by decide +kernel
theorem dX0_linked_39 : decode cX0_linked 39 = .ok (.ireturn, 1) := by decide +kernel
noncomputable def f_X0_linked (M : ZMem) (x1 : Int32) (x2 : Int32) : Option Int32 := zbind (f_X1_tieOf M x1 x2) (fun r_3 => if r_3 = (zI 1) then some (zI 1) else if r_3 = (zI 2) then some (zI 0) else zbind (f_X0_unlikeOf M x1 x2) (fun r_23 => zbind (f_X1_settingOf M (zI 0)) (fun r_28 => if r_28 < r_23 then some (zI 0) else some (zI 1))))
set_option maxRecDepth 100000 in
set_option maxHeartbeats 4000000 in
theorem c_X0_linked (E : ZEv) (M : ZMem) (x1 : Int32) (x2 : Int32) (K : Int32 → Prop) (hk : zOk (f_X0_linked M x1 x2) K) : zCon lyC E yX0_linked cX0_linked 5 (some .boolean) 2 [zrf E 3, .int x1, .int x2, zrf E 20] M (zRp M K) := by
  refine zcon_of (L0 := [(0, zrf E 3), (1, .int x1), (2, .int x2), (3, zrf E 20)]) (by decide) rfl (Nat.le_of_ble_eq_true rfl) (fun G h => ?_)
  have h : zRu lyC E G (zRp M K) cX0_linked RX0 5 (some .boolean) 2 := h
  unfold f_X0_linked at hk
  refine zr_aload_n h dX0_linked_0 3 rfl rfl ?_
  refine zr_iload_n h dX0_linked_1 1 rfl rfl ?_
  refine zr_iload_n h dX0_linked_2 2 rfl rfl ?_
  refine zr_callVp h lC_20 zcw_X0_135 (by decide) (c_X1_tieOf E M x1 x2 _ (zOk_bind hk)) rfl rfl (Nat.le_of_ble_eq_true rfl) dX0_linked_3 (fun r_3 hk => ?_)
  refine zr_istore (L' := [(0, zrf E 3), (1, .int x1), (2, .int x2), (3, zrf E 20), (4, .int r_3)]) h [1, 2, 3, 4, 0] dX0_linked_6 (by decide) rfl ?_
  refine zr_iload h dX0_linked_8 4 rfl ?_
  refine zr_iconst (v := (zI 1)) h dX0_linked_10 rfl ?_
  refine zr_icmp_eq (tgt := 34) h dX0_linked_11 (by decide) (fun c => ?_) (fun c => ?_)
  · have hk := zOk_t c hk
    refine zr_iconst (v := (zI 1)) h dX0_linked_34 rfl ?_
    refine zr_goto (tgt := 39) h dX0_linked_35 (by decide) ?_
    have hk := zOk_some hk
    exact zr_zret h dX0_linked_39 (by decide) ⟨rfl, _, rfl, hk⟩
  · have hk := zOk_f c hk
    refine zr_iload h dX0_linked_14 4 rfl ?_
    refine zr_iconst (v := (zI 2)) h dX0_linked_16 rfl ?_
    refine zr_icmp_eq (tgt := 38) h dX0_linked_17 (by decide) (fun c => ?_) (fun c => ?_)
    · have hk := zOk_t c hk
      refine zr_iconst (v := (zI 0)) h dX0_linked_38 rfl ?_
      have hk := zOk_some hk
      exact zr_zret h dX0_linked_39 (by decide) ⟨rfl, _, rfl, hk⟩
    · have hk := zOk_f c hk
      refine zr_aload_n h dX0_linked_20 0 rfl rfl ?_
      refine zr_iload_n h dX0_linked_21 1 rfl rfl ?_
      refine zr_iload_n h dX0_linked_22 2 rfl rfl ?_
      refine zr_callVp h lC_3 zcw_X0_116 (by decide) (c_X0_unlikeOf E M x1 x2 _ (zOk_bind hk)) rfl rfl (Nat.le_of_ble_eq_true rfl) dX0_linked_23 (fun r_23 hk => ?_)
      refine zr_aload_n h dX0_linked_26 3 rfl rfl ?_
      refine zr_iconst (v := (zI 0)) h dX0_linked_27 rfl ?_
      refine zr_callVp h lC_20 zcw_X0_140 (by decide) (c_X1_settingOf E M (zI 0) _ (zOk_bind hk)) rfl rfl (Nat.le_of_ble_eq_true rfl) dX0_linked_28 (fun r_28 hk => ?_)
      refine zr_icmp_gt (tgt := 38) h dX0_linked_31 (by decide) (fun c => ?_) (fun c => ?_)
      · have hk := zOk_t c hk
        refine zr_iconst (v := (zI 0)) h dX0_linked_38 rfl ?_
        have hk := zOk_some hk
        exact zr_zret h dX0_linked_39 (by decide) ⟨rfl, _, rfl, hk⟩
      · have hk := zOk_f c hk
        refine zr_iconst (v := (zI 1)) h dX0_linked_34 rfl ?_
        refine zr_goto (tgt := 39) h dX0_linked_35 (by decide) ?_
        have hk := zOk_some hk
        exact zr_zret h dX0_linked_39 (by decide) ⟨rfl, _, rfl, hk⟩
theorem dX0_signOf_0 : decode cX0_signOf 0 = .ok (.aload_n 0, 1) := by decide +kernel
theorem dX0_signOf_1 : decode cX0_signOf 1 = .ok (.iload_n 1, 1) := by decide +kernel
theorem dX0_signOf_2 : decode cX0_signOf 2 = .ok (.invokevirtual 113, 3) := by decide +kernel
theorem dX0_signOf_5 : decode cX0_signOf 5 = .ok (.ifCond .eq 12, 3) := by decide +kernel
theorem dX0_signOf_8 : decode cX0_signOf 8 = .ok (.aload_n 0, 1) := by decide +kernel
theorem dX0_signOf_9 : decode cX0_signOf 9 = .ok (.getfield 27, 3) := by decide +kernel
theorem dX0_signOf_12 : decode cX0_signOf 12 = .ok (.iload_n 1, 1) := by decide +kernel
theorem dX0_signOf_13 : decode cX0_signOf 13 = .ok (.iaload, 1) := by decide +kernel
theorem dX0_signOf_14 : decode cX0_signOf 14 = .ok (.goto 4, 3) := by decide +kernel
theorem dX0_signOf_17 : decode cX0_signOf 17 = .ok (.iconst (-1), 1) := by decide +kernel
theorem dX0_signOf_18 : decode cX0_signOf 18 = .ok (.ireturn, 1) := by decide +kernel
noncomputable def f_X0_signOf (M : ZMem) (x1 : Int32) : Option Int32 := zbind (f_X0_has M x1) (fun r_2 => if r_2 = (zI 0) then some (zI (-1)) else zchk (zin x1 20) (some (M.1 9 (zix x1))))
set_option maxRecDepth 100000 in
set_option maxHeartbeats 4000000 in
theorem c_X0_signOf (E : ZEv) (M : ZMem) (x1 : Int32) (K : Int32 → Prop) (hk : zOk (f_X0_signOf M x1) K) : zCon lyC E yX0_signOf cX0_signOf 2 (some .int) 1 [zrf E 3, .int x1] M (zRp M K) := by
  refine zcon_of (L0 := [(0, zrf E 3), (1, .int x1)]) (by decide) rfl (Nat.le_of_ble_eq_true rfl) (fun G h => ?_)
  have h : zRu lyC E G (zRp M K) cX0_signOf RX0 2 (some .int) 1 := h
  unfold f_X0_signOf at hk
  refine zr_aload_n h dX0_signOf_0 0 rfl rfl ?_
  refine zr_iload_n h dX0_signOf_1 1 rfl rfl ?_
  refine zr_callVp h lC_3 zcw_X0_113 (by decide) (c_X0_has E M x1 _ (zOk_bind hk)) rfl rfl (Nat.le_of_ble_eq_true rfl) dX0_signOf_2 (fun r_2 hk => ?_)
  refine zr_if_eq (tgt := 17) h dX0_signOf_5 (by decide) (fun c => ?_) (fun c => ?_)
  · have hk := zOk_t c hk
    refine zr_iconst (v := (zI (-1))) h dX0_signOf_17 rfl ?_
    have hk := zOk_some hk
    exact zr_iret h dX0_signOf_18 ⟨rfl, _, rfl, hk⟩
  · have hk := zOk_f c hk
    refine zr_aload_n h dX0_signOf_8 0 rfl rfl ?_
    refine zr_getR h zfo_X0_27 lC_3 rfl dX0_signOf_9 ?_
    refine zr_iload_n h dX0_signOf_12 1 rfl rfl ?_
    have hb := zOk_chk hk
    have hk := hb.2
    refine zr_iald h lC_9 hb.1 dX0_signOf_13 ?_
    refine zr_goto (tgt := 18) h dX0_signOf_14 (by decide) ?_
    have hk := zOk_some hk
    exact zr_iret h dX0_signOf_18 ⟨rfl, _, rfl, hk⟩
theorem dX0_settleSigns_0 : decode cX0_settleSigns 0 = .ok (.aload_n 0, 1) := by decide +kernel
theorem dX0_settleSigns_1 : decode cX0_settleSigns 1 = .ok (.getfield 27, 3) := by decide +kernel
theorem dX0_settleSigns_4 : decode cX0_settleSigns 4 = .ok (.invokestatic 101, 3) := by decide +kernel
theorem dX0_settleSigns_7 : decode cX0_settleSigns 7 = .ok (.iconst 0, 1) := by decide +kernel
theorem dX0_settleSigns_8 : decode cX0_settleSigns 8 = .ok (.istore_n 2, 1) := by decide +kernel
theorem dX0_settleSigns_9 : decode cX0_settleSigns 9 = .ok (.iload_n 2, 1) := by decide +kernel
theorem dX0_settleSigns_10 : decode cX0_settleSigns 10 = .ok (.aload_n 0, 1) := by decide +kernel
theorem dX0_settleSigns_11 : decode cX0_settleSigns 11 = .ok (.getfield 33, 3) := by decide +kernel
theorem dX0_settleSigns_14 : decode cX0_settleSigns 14 = .ok (.if_icmp .ge 47, 3) := by decide +kernel
theorem dX0_settleSigns_17 : decode cX0_settleSigns 17 = .ok (.iload_n 2, 1) := by decide +kernel
theorem dX0_settleSigns_18 : decode cX0_settleSigns 18 = .ok (.iconst 1, 1) := by decide +kernel
theorem dX0_settleSigns_19 : decode cX0_settleSigns 19 = .ok (.iadd, 1) := by decide +kernel
theorem dX0_settleSigns_20 : decode cX0_settleSigns 20 = .ok (.istore_n 3, 1) := by decide +kernel
theorem dX0_settleSigns_21 : decode cX0_settleSigns 21 = .ok (.iload_n 3, 1) := by decide +kernel
theorem dX0_settleSigns_22 : decode cX0_settleSigns 22 = .ok (.aload_n 0, 1) := by decide +kernel
theorem dX0_settleSigns_23 : decode cX0_settleSigns 23 = .ok (.getfield 33, 3) := by decide +kernel
theorem dX0_settleSigns_26 : decode cX0_settleSigns 26 = .ok (.if_icmp .ge 29, 3) := by decide +kernel
theorem dX0_settleSigns_29 : decode cX0_settleSigns 29 = .ok (.aload_n 0, 1) := by decide +kernel
theorem dX0_settleSigns_30 : decode cX0_settleSigns 30 = .ok (.iload_n 2, 1) := by decide +kernel
theorem dX0_settleSigns_31 : decode cX0_settleSigns 31 = .ok (.iload_n 3, 1) := by decide +kernel
theorem dX0_settleSigns_32 : decode cX0_settleSigns 32 = .ok (.aload_n 1, 1) := by decide +kernel
theorem dX0_settleSigns_33 : decode cX0_settleSigns 33 = .ok (.invokevirtual 119, 3) := by decide +kernel
theorem dX0_settleSigns_36 : decode cX0_settleSigns 36 = .ok (.ifCond .eq 13, 3) := by decide +kernel
theorem dX0_settleSigns_39 : decode cX0_settleSigns 39 = .ok (.aload_n 0, 1) := by decide +kernel
theorem dX0_settleSigns_40 : decode cX0_settleSigns 40 = .ok (.getfield 27, 3) := by decide +kernel
theorem dX0_settleSigns_43 : decode cX0_settleSigns 43 = .ok (.iload_n 2, 1) := by decide +kernel
theorem dX0_settleSigns_44 : decode cX0_settleSigns 44 = .ok (.iload_n 3, 1) := by decide +kernel
theorem dX0_settleSigns_45 : decode cX0_settleSigns 45 = .ok (.invokestatic 105, 3) := by decide +kernel
theorem dX0_settleSigns_48 : decode cX0_settleSigns 48 = .ok (.pop, 1) := by decide +kernel
theorem dX0_settleSigns_49 : decode cX0_settleSigns 49 = .ok (.iinc 3 1, 3) := by decide +kernel
theorem dX0_settleSigns_52 : decode cX0_settleSigns 52 = .ok (.goto (-31), 3) := by decide +kernel
theorem dX0_settleSigns_55 : decode cX0_settleSigns 55 = .ok (.iinc 2 1, 3) := by decide +kernel
theorem dX0_settleSigns_58 : decode cX0_settleSigns 58 = .ok (.goto (-49), 3) := by decide +kernel
theorem dX0_settleSigns_61 : decode cX0_settleSigns 61 = .ok (.aload_n 0, 1) := by decide +kernel
theorem dX0_settleSigns_62 : decode cX0_settleSigns 62 = .ok (.iconst 0, 1) := by decide +kernel
theorem dX0_settleSigns_63 : decode cX0_settleSigns 63 = .ok (.putfield 123, 3) := by decide +kernel
theorem dX0_settleSigns_66 : decode cX0_settleSigns 66 = .ok (.aload_n 0, 1) := by decide +kernel
theorem dX0_settleSigns_67 : decode cX0_settleSigns 67 = .ok (.getfield 30, 3) := by decide +kernel
theorem dX0_settleSigns_70 : decode cX0_settleSigns 70 = .ok (.iconst 0, 1) := by decide +kernel
theorem dX0_settleSigns_71 : decode cX0_settleSigns 71 = .ok (.invokestatic 126, 3) := by decide +kernel
theorem dX0_settleSigns_74 : decode cX0_settleSigns 74 = .ok (.iconst 0, 1) := by decide +kernel
theorem dX0_settleSigns_75 : decode cX0_settleSigns 75 = .ok (.istore_n 2, 1) := by decide +kernel
theorem dX0_settleSigns_76 : decode cX0_settleSigns 76 = .ok (.iload_n 2, 1) := by decide +kernel
theorem dX0_settleSigns_77 : decode cX0_settleSigns 77 = .ok (.aload_n 0, 1) := by decide +kernel
theorem dX0_settleSigns_78 : decode cX0_settleSigns 78 = .ok (.getfield 33, 3) := by decide +kernel
theorem dX0_settleSigns_81 : decode cX0_settleSigns 81 = .ok (.if_icmp .ge 54, 3) := by decide +kernel
theorem dX0_settleSigns_84 : decode cX0_settleSigns 84 = .ok (.aload_n 0, 1) := by decide +kernel
theorem dX0_settleSigns_85 : decode cX0_settleSigns 85 = .ok (.iload_n 2, 1) := by decide +kernel
theorem dX0_settleSigns_86 : decode cX0_settleSigns 86 = .ok (.invokevirtual 132, 3) := by decide +kernel
theorem dX0_settleSigns_89 : decode cX0_settleSigns 89 = .ok (.istore_n 3, 1) := by decide +kernel
theorem dX0_settleSigns_90 : decode cX0_settleSigns 90 = .ok (.iload_n 3, 1) := by decide +kernel
theorem dX0_settleSigns_91 : decode cX0_settleSigns 91 = .ok (.ifCond .lt 19, 3) := by decide +kernel
theorem dX0_settleSigns_94 : decode cX0_settleSigns 94 = .ok (.iload_n 3, 1) := by decide +kernel
theorem dX0_settleSigns_95 : decode cX0_settleSigns 95 = .ok (.bipush 20, 2) := by decide +kernel
theorem dX0_settleSigns_97 : decode cX0_settleSigns 97 = .ok (.if_icmp .ge 13, 3) := by decide +kernel
theorem dX0_settleSigns_100 : decode cX0_settleSigns 100 = .ok (.aload_n 0, 1) := by decide +kernel
theorem dX0_settleSigns_101 : decode cX0_settleSigns 101 = .ok (.getfield 30, 3) := by decide +kernel
theorem dX0_settleSigns_104 : decode cX0_settleSigns 104 = .ok (.iload_n 3, 1) := by decide +kernel
theorem dX0_settleSigns_105 : decode cX0_settleSigns 105 = .ok (.dup2, 1) := by decide +kernel
theorem dX0_settleSigns_106 : decode cX0_settleSigns 106 = .ok (.iaload, 1) := by decide +kernel
theorem dX0_settleSigns_107 : decode cX0_settleSigns 107 = .ok (.iconst 1, 1) := by decide +kernel
theorem dX0_settleSigns_108 : decode cX0_settleSigns 108 = .ok (.iadd, 1) := by decide +kernel
theorem dX0_settleSigns_109 : decode cX0_settleSigns 109 = .ok (.iastore, 1) := by decide +kernel
theorem dX0_settleSigns_110 : decode cX0_settleSigns 110 = .ok (.aload_n 0, 1) := by decide +kernel
theorem dX0_settleSigns_111 : decode cX0_settleSigns 111 = .ok (.dup, 1) := by decide +kernel
theorem dX0_settleSigns_112 : decode cX0_settleSigns 112 = .ok (.getfield 123, 3) := by decide +kernel
theorem dX0_settleSigns_115 : decode cX0_settleSigns 115 = .ok (.iload_n 3, 1) := by decide +kernel
theorem dX0_settleSigns_116 : decode cX0_settleSigns 116 = .ok (.iload_n 2, 1) := by decide +kernel
theorem dX0_settleSigns_117 : decode cX0_settleSigns 117 = .ok (.if_icmp .ne 7, 3) := by decide +kernel
theorem dX0_settleSigns_120 : decode cX0_settleSigns 120 = .ok (.iconst 1, 1) := by decide +kernel
theorem dX0_settleSigns_121 : decode cX0_settleSigns 121 = .ok (.goto 4, 3) := by decide +kernel
theorem dX0_settleSigns_124 : decode cX0_settleSigns 124 = .ok (.iconst 0, 1) := by decide +kernel
theorem dX0_settleSigns_125 : decode cX0_settleSigns 125 = .ok (.iadd, 1) := by decide +kernel
theorem dX0_settleSigns_126 : decode cX0_settleSigns 126 = .ok (.putfield 123, 3) := by decide +kernel
theorem dX0_settleSigns_129 : decode cX0_settleSigns 129 = .ok (.iinc 2 1, 3) := by decide +kernel
theorem dX0_settleSigns_132 : decode cX0_settleSigns 132 = .ok (.goto (-56), 3) := by decide +kernel
theorem dX0_settleSigns_135 : decode cX0_settleSigns 135 = .ok (.return_, 1) := by decide +kernel
noncomputable def f_X0_settleSigns_L21 (x2 : Int32) (s : (ZMem × Int32)) : Option ((ZMem × Int32) ⊕ (ZMem)) := if (s.1.1 3 7) ≤ s.2 then some (.inr s.1) else zbind (f_X0_linked s.1 x2 s.2) (fun r_33 => if r_33 = (zI 0) then zbnd (s.2 + (zI 1)) (fun x3_49 => some (.inl (s.1, x3_49))) else zbind (f_X11_joinLabels 9 20 s.1 x2 s.2) (fun r_45 => zbnd (s.2 + (zI 1)) (fun x3_49 => some (.inl (r_45.1, x3_49)))))
set_option maxRecDepth 100000 in
set_option maxHeartbeats 4000000 in
theorem w_X0_settleSigns_L21 {E : ZEv} {G : ZG} {K : ZMem → Prop} (h : zRu lyC E G (zRv K) cX0_settleSigns RX0 4 none 3) (x2 : Int32) (s : (ZMem × Int32)) (hk : zOk (zloop (f_X0_settleSigns_L21 x2) s) (fun e => G e 55 [(0, zrf E 3), (1, zrf E 20), (2, .int x2)] [])) : G s.1 21 [(0, zrf E 3), (1, zrf E 20), (2, .int x2), (3, .int s.2)] [] := by
  refine zloop_walk (P := fun s => G s.1 21 [(0, zrf E 3), (1, zrf E 20), (2, .int x2), (3, .int s.2)] []) hk (fun s hk => ?_)
  unfold f_X0_settleSigns_L21 at hk
  refine zr_iload_n h dX0_settleSigns_21 3 rfl rfl ?_
  refine zr_aload_n h dX0_settleSigns_22 0 rfl rfl ?_
  refine zr_getI h zfo_X0_33 lC_3 rfl dX0_settleSigns_23 ?_
  refine zr_icmp_ge (tgt := 55) h dX0_settleSigns_26 (by decide) (fun c => ?_) (fun c => ?_)
  · have hk := zOk_t c hk
    have hk := zOk_some hk
    exact zr_weak h [0, 1, 2] rfl hk
  · have hk := zOk_f c hk
    refine zr_aload_n h dX0_settleSigns_29 0 rfl rfl ?_
    refine zr_iload_n h dX0_settleSigns_30 2 rfl rfl ?_
    refine zr_iload_n h dX0_settleSigns_31 3 rfl rfl ?_
    refine zr_aload_n h dX0_settleSigns_32 1 rfl rfl ?_
    refine zr_callVp h lC_3 zcw_X0_119 (by decide) (c_X0_linked E s.1 x2 s.2 _ (zOk_bind hk)) rfl rfl (Nat.le_of_ble_eq_true rfl) dX0_settleSigns_33 (fun r_33 hk => ?_)
    refine zr_if_eq (tgt := 49) h dX0_settleSigns_36 (by decide) (fun c => ?_) (fun c => ?_)
    · have hk := zOk_t c hk
      obtain ⟨x3_49, ex⟩ : ∃ y : Int32, y = s.2 + (zI 1) := ⟨_, rfl⟩
      have hk := zOk_bnd ex hk
      refine zr_iinc (v := x3_49) (L' := [(0, zrf E 3), (1, zrf E 20), (2, .int x2), (3, .int x3_49)]) h 3 [1, 2, 3, 0] dX0_settleSigns_49 rfl (by rw [ex]; rfl) (by decide) rfl ?_
      refine zr_goto (tgt := 21) h dX0_settleSigns_52 (by decide) ?_
      have hk := zOk_some hk
      exact zr_weak h [0, 1, 2, 3] rfl hk
    · have hk := zOk_f c hk
      refine zr_aload_n h dX0_settleSigns_39 0 rfl rfl ?_
      refine zr_getR h zfo_X0_27 lC_3 rfl dX0_settleSigns_40 ?_
      refine zr_iload_n h dX0_settleSigns_43 2 rfl rfl ?_
      refine zr_iload_n h dX0_settleSigns_44 3 rfl rfl ?_
      refine zr_callNm h zcw_X0_105 (by decide) (c_X11_joinLabels E 9 20 lC_9 s.1 x2 s.2 _ (zOk_bind hk)) rfl rfl (Nat.le_of_ble_eq_true rfl) dX0_settleSigns_45 (fun r_45 hk => ?_)
      refine zr_pop h dX0_settleSigns_48 rfl ?_
      obtain ⟨x3_49, ex⟩ : ∃ y : Int32, y = s.2 + (zI 1) := ⟨_, rfl⟩
      have hk := zOk_bnd ex hk
      refine zr_iinc (v := x3_49) (L' := [(0, zrf E 3), (1, zrf E 20), (2, .int x2), (3, .int x3_49)]) h 3 [1, 2, 3, 0] dX0_settleSigns_49 rfl (by rw [ex]; rfl) (by decide) rfl ?_
      refine zr_goto (tgt := 21) h dX0_settleSigns_52 (by decide) ?_
      have hk := zOk_some hk
      exact zr_weak h [0, 1, 2, 3] rfl hk
noncomputable def f_X0_settleSigns_L9 (s : (ZMem × Int32)) : Option ((ZMem × Int32) ⊕ (ZMem)) := if (s.1.1 3 7) ≤ s.2 then some (.inr s.1) else zbnd (s.2 + (zI 1)) (fun x3_20 => zbind (zloop (f_X0_settleSigns_L21 s.2) (s.1, x3_20)) (fun e21 => zbnd (s.2 + (zI 1)) (fun x2_55 => some (.inl (e21, x2_55)))))
set_option maxRecDepth 100000 in
set_option maxHeartbeats 4000000 in
theorem w_X0_settleSigns_L9 {E : ZEv} {G : ZG} {K : ZMem → Prop} (h : zRu lyC E G (zRv K) cX0_settleSigns RX0 4 none 3) (s : (ZMem × Int32)) (hk : zOk (zloop (f_X0_settleSigns_L9) s) (fun e => G e 61 [(0, zrf E 3)] [])) : G s.1 9 [(0, zrf E 3), (1, zrf E 20), (2, .int s.2)] [] := by
  refine zloop_walk (P := fun s => G s.1 9 [(0, zrf E 3), (1, zrf E 20), (2, .int s.2)] []) hk (fun s hk => ?_)
  unfold f_X0_settleSigns_L9 at hk
  refine zr_iload_n h dX0_settleSigns_9 2 rfl rfl ?_
  refine zr_aload_n h dX0_settleSigns_10 0 rfl rfl ?_
  refine zr_getI h zfo_X0_33 lC_3 rfl dX0_settleSigns_11 ?_
  refine zr_icmp_ge (tgt := 61) h dX0_settleSigns_14 (by decide) (fun c => ?_) (fun c => ?_)
  · have hk := zOk_t c hk
    have hk := zOk_some hk
    exact zr_weak h [0] rfl hk
  · have hk := zOk_f c hk
    refine zr_iload_n h dX0_settleSigns_17 2 rfl rfl ?_
    refine zr_iconst (v := (zI 1)) h dX0_settleSigns_18 rfl ?_
    refine zr_iadd h dX0_settleSigns_19 ?_
    refine zr_topi (fun x3_20 ex => ?_)
    have hk := zOk_bnd ex hk
    refine zr_istore_n (L' := [(0, zrf E 3), (1, zrf E 20), (2, .int s.2), (3, .int x3_20)]) h [1, 2, 3, 0] dX0_settleSigns_20 rfl (by decide) rfl ?_
    refine w_X0_settleSigns_L21 h s.2 (s.1, x3_20) (zOk_mono (zOk_bind hk) (fun e21 hk => ?_))
    obtain ⟨x2_55, ex⟩ : ∃ y : Int32, y = s.2 + (zI 1) := ⟨_, rfl⟩
    have hk := zOk_bnd ex hk
    refine zr_iinc (v := x2_55) (L' := [(0, zrf E 3), (1, zrf E 20), (2, .int x2_55)]) h 2 [1, 2, 0] dX0_settleSigns_55 rfl (by rw [ex]; rfl) (by decide) rfl ?_
    refine zr_goto (tgt := 9) h dX0_settleSigns_58 (by decide) ?_
    have hk := zOk_some hk
    exact zr_weak h [0, 1, 2] rfl hk
noncomputable def f_X0_settleSigns_125_L76 (M : ZMem) (x2 : Int32) (v1 : Int32) (v2 : Int32) : Option ((ZMem × Int32) ⊕ (ZMem)) := zbnd (zstI M 3 11 (v1 + v2)) (fun M_126 => zbnd (x2 + (zI 1)) (fun x2_129 => some (.inl (M_126, x2_129))))
set_option maxRecDepth 100000 in
set_option maxHeartbeats 4000000 in
theorem w_X0_settleSigns_125_L76 {E : ZEv} {G : ZG} {K : ZMem → Prop} (h : zRu lyC E G (zRv K) cX0_settleSigns RX0 4 none 3) (M : ZMem) (x2 : Int32) (v1 : Int32) (v2 : Int32) (hk : zOk (f_X0_settleSigns_125_L76 M x2 v1 v2) (zlp (fun s => G s.1 76 [(0, zrf E 3), (2, .int s.2)] []) (fun e => G e 135 [] []))) : G M 125 [(0, zrf E 3), (2, .int x2)] [.int v2, .int v1, zrf E 3] := by
  unfold f_X0_settleSigns_125_L76 at hk
  refine zr_iadd h dX0_settleSigns_125 ?_
  refine zr_putI h zfp_X0_123 lC_3 rfl dX0_settleSigns_126 ?_
  refine zr_mem (fun M_126 eM => ?_)
  have hk := zOk_bnd eM hk
  obtain ⟨x2_129, ex⟩ : ∃ y : Int32, y = x2 + (zI 1) := ⟨_, rfl⟩
  have hk := zOk_bnd ex hk
  refine zr_iinc (v := x2_129) (L' := [(0, zrf E 3), (2, .int x2_129)]) h 1 [1, 0] dX0_settleSigns_129 rfl (by rw [ex]; rfl) (by decide) rfl ?_
  refine zr_goto (tgt := 76) h dX0_settleSigns_132 (by decide) ?_
  have hk := zOk_some hk
  exact zr_weak h [0, 1] rfl hk
noncomputable def f_X0_settleSigns_110_L76 (M : ZMem) (x2 : Int32) (x3 : Int32) : Option ((ZMem × Int32) ⊕ (ZMem)) := if x3 = x2 then f_X0_settleSigns_125_L76 M x2 (M.1 3 11) (zI 1) else f_X0_settleSigns_125_L76 M x2 (M.1 3 11) (zI 0)
set_option maxRecDepth 100000 in
set_option maxHeartbeats 4000000 in
theorem w_X0_settleSigns_110_L76 {E : ZEv} {G : ZG} {K : ZMem → Prop} (h : zRu lyC E G (zRv K) cX0_settleSigns RX0 4 none 3) (M : ZMem) (x2 : Int32) (x3 : Int32) (hk : zOk (f_X0_settleSigns_110_L76 M x2 x3) (zlp (fun s => G s.1 76 [(0, zrf E 3), (2, .int s.2)] []) (fun e => G e 135 [] []))) : G M 110 [(0, zrf E 3), (2, .int x2), (3, .int x3)] [] := by
  unfold f_X0_settleSigns_110_L76 at hk
  refine zr_aload_n h dX0_settleSigns_110 0 rfl rfl ?_
  refine zr_dup h dX0_settleSigns_111 rfl ?_
  refine zr_getI h zfo_X0_123 lC_3 rfl dX0_settleSigns_112 ?_
  refine zr_iload_n h dX0_settleSigns_115 2 rfl rfl ?_
  refine zr_iload_n h dX0_settleSigns_116 1 rfl rfl ?_
  refine zr_icmp_ne (tgt := 124) h dX0_settleSigns_117 (by decide) (fun c => ?_) (fun c => ?_)
  · have hk := zOk_t c hk
    refine zr_iconst (v := (zI 1)) h dX0_settleSigns_120 rfl ?_
    refine zr_goto (tgt := 125) h dX0_settleSigns_121 (by decide) ?_
    exact zr_weak h [0, 1] rfl (w_X0_settleSigns_125_L76 h M x2 (M.1 3 11) (zI 1) hk)
  · have hk := zOk_f c hk
    refine zr_iconst (v := (zI 0)) h dX0_settleSigns_124 rfl ?_
    exact zr_weak h [0, 1] rfl (w_X0_settleSigns_125_L76 h M x2 (M.1 3 11) (zI 0) hk)
noncomputable def f_X0_settleSigns_L76 (s : (ZMem × Int32)) : Option ((ZMem × Int32) ⊕ (ZMem)) := if (s.1.1 3 7) ≤ s.2 then some (.inr s.1) else zbind (f_X0_signOf s.1 s.2) (fun r_86 => if r_86 < (zI 0) then f_X0_settleSigns_110_L76 s.1 s.2 r_86 else if (zI 20) ≤ r_86 then f_X0_settleSigns_110_L76 s.1 s.2 r_86 else zchk (zin r_86 20) (zchk (zin r_86 20) (zbnd (zstI s.1 10 (zix r_86) ((s.1.1 10 (zix r_86)) + (zI 1))) (fun M_109 => f_X0_settleSigns_110_L76 M_109 s.2 r_86))))
set_option maxRecDepth 100000 in
set_option maxHeartbeats 4000000 in
theorem w_X0_settleSigns_L76 {E : ZEv} {G : ZG} {K : ZMem → Prop} (h : zRu lyC E G (zRv K) cX0_settleSigns RX0 4 none 3) (s : (ZMem × Int32)) (hk : zOk (zloop (f_X0_settleSigns_L76) s) (fun e => G e 135 [] [])) : G s.1 76 [(0, zrf E 3), (2, .int s.2)] [] := by
  refine zloop_walk (P := fun s => G s.1 76 [(0, zrf E 3), (2, .int s.2)] []) hk (fun s hk => ?_)
  unfold f_X0_settleSigns_L76 at hk
  refine zr_iload_n h dX0_settleSigns_76 1 rfl rfl ?_
  refine zr_aload_n h dX0_settleSigns_77 0 rfl rfl ?_
  refine zr_getI h zfo_X0_33 lC_3 rfl dX0_settleSigns_78 ?_
  refine zr_icmp_ge (tgt := 135) h dX0_settleSigns_81 (by decide) (fun c => ?_) (fun c => ?_)
  · have hk := zOk_t c hk
    have hk := zOk_some hk
    exact zr_weak h [] rfl hk
  · have hk := zOk_f c hk
    refine zr_aload_n h dX0_settleSigns_84 0 rfl rfl ?_
    refine zr_iload_n h dX0_settleSigns_85 1 rfl rfl ?_
    refine zr_callVp h lC_3 zcw_X0_132 (by decide) (c_X0_signOf E s.1 s.2 _ (zOk_bind hk)) rfl rfl (Nat.le_of_ble_eq_true rfl) dX0_settleSigns_86 (fun r_86 hk => ?_)
    refine zr_istore_n (L' := [(0, zrf E 3), (2, .int s.2), (3, .int r_86)]) h [1, 2, 0] dX0_settleSigns_89 rfl (by decide) rfl ?_
    refine zr_iload_n h dX0_settleSigns_90 2 rfl rfl ?_
    refine zr_if_lt (tgt := 110) h dX0_settleSigns_91 (by decide) (fun c => ?_) (fun c => ?_)
    · have hk := zOk_t c hk
      exact w_X0_settleSigns_110_L76 h s.1 s.2 r_86 hk
    · have hk := zOk_f c hk
      refine zr_iload_n h dX0_settleSigns_94 2 rfl rfl ?_
      refine zr_bipush (v := (zI 20)) h dX0_settleSigns_95 (by decide) ?_
      refine zr_icmp_ge (tgt := 110) h dX0_settleSigns_97 (by decide) (fun c => ?_) (fun c => ?_)
      · have hk := zOk_t c hk
        exact w_X0_settleSigns_110_L76 h s.1 s.2 r_86 hk
      · have hk := zOk_f c hk
        refine zr_aload_n h dX0_settleSigns_100 0 rfl rfl ?_
        refine zr_getR h zfo_X0_30 lC_3 rfl dX0_settleSigns_101 ?_
        refine zr_iload_n h dX0_settleSigns_104 2 rfl rfl ?_
        refine zr_dup2_11 h dX0_settleSigns_105 rfl rfl ?_
        have hb := zOk_chk hk
        have hk := hb.2
        refine zr_iald h lC_10 hb.1 dX0_settleSigns_106 ?_
        refine zr_iconst (v := (zI 1)) h dX0_settleSigns_107 rfl ?_
        refine zr_iadd h dX0_settleSigns_108 ?_
        have hb := zOk_chk hk
        have hk := hb.2
        refine zr_iast h lC_10 hb.1 dX0_settleSigns_109 ?_
        refine zr_mem (fun M_109 eM => ?_)
        have hk := zOk_bnd eM hk
        exact w_X0_settleSigns_110_L76 h M_109 s.2 r_86 hk
noncomputable def f_X0_settleSigns (M : ZMem) : Option ZMem := zbind (f_X11_startLabels 9 20 M) (fun M_4 => zbind (zloop (f_X0_settleSigns_L9) (M_4, (zI 0))) (fun e9 => zbnd (zstI e9 3 11 (zI 0)) (fun M_63 => zbind (f_J7_fill_53178 10 20 M_63 (zI 0)) (fun M_71 => zbind (zloop (f_X0_settleSigns_L76) (M_71, (zI 0))) (fun e76 => some e76)))))
set_option maxRecDepth 100000 in
set_option maxHeartbeats 4000000 in
theorem c_X0_settleSigns (E : ZEv) (M : ZMem) (K : ZMem → Prop) (hk : zOk (f_X0_settleSigns M) K) : zCon lyC E yX0_settleSigns cX0_settleSigns 4 none 3 [zrf E 3, zrf E 20] M (zRv K) := by
  refine zcon_of (L0 := [(0, zrf E 3), (1, zrf E 20)]) (by decide) rfl (Nat.le_of_ble_eq_true rfl) (fun G h => ?_)
  have h : zRu lyC E G (zRv K) cX0_settleSigns RX0 4 none 3 := h
  unfold f_X0_settleSigns at hk
  refine zr_aload_n h dX0_settleSigns_0 0 rfl rfl ?_
  refine zr_getR h zfo_X0_27 lC_3 rfl dX0_settleSigns_1 ?_
  refine zr_callNv h zcw_X0_101 (by decide) (c_X11_startLabels E 9 20 lC_9 M _ (zOk_bind hk)) rfl rfl (Nat.le_of_ble_eq_true rfl) dX0_settleSigns_4 (fun M_4 hk => ?_)
  refine zr_iconst (v := (zI 0)) h dX0_settleSigns_7 rfl ?_
  refine zr_istore_n (L' := [(0, zrf E 3), (1, zrf E 20), (2, .int (zI 0))]) h [1, 2, 0] dX0_settleSigns_8 rfl (by decide) rfl ?_
  refine w_X0_settleSigns_L9 h (M_4, (zI 0)) (zOk_mono (zOk_bind hk) (fun e9 hk => ?_))
  refine zr_aload_n h dX0_settleSigns_61 0 rfl rfl ?_
  refine zr_iconst (v := (zI 0)) h dX0_settleSigns_62 rfl ?_
  refine zr_putI h zfp_X0_123 lC_3 rfl dX0_settleSigns_63 ?_
  refine zr_mem (fun M_63 eM => ?_)
  have hk := zOk_bnd eM hk
  refine zr_aload_n h dX0_settleSigns_66 0 rfl rfl ?_
  refine zr_getR h zfo_X0_30 lC_3 rfl dX0_settleSigns_67 ?_
  refine zr_iconst (v := (zI 0)) h dX0_settleSigns_70 rfl ?_
  refine zr_callSv h zcw_X0_126 (by decide) (c_J7_fill_53178 E 10 20 lC_10 M_63 (zI 0) _ (zOk_bind hk)) rfl rfl (Nat.le_of_ble_eq_true rfl) dX0_settleSigns_71 (fun M_71 hk => ?_)
  refine zr_iconst (v := (zI 0)) h dX0_settleSigns_74 rfl ?_
  refine zr_istore_n (L' := [(0, zrf E 3), (2, .int (zI 0))]) h [1, 0] dX0_settleSigns_75 rfl (by decide) rfl ?_
  refine w_X0_settleSigns_L76 h (M_71, (zI 0)) (zOk_mono (zOk_bind hk) (fun e76 hk => ?_))
  have hk := zOk_some hk
  exact zr_vret h dX0_settleSigns_135 ⟨rfl, hk⟩
theorem dX0_isSign_0 : decode cX0_isSign 0 = .ok (.aload_n 0, 1) := by decide +kernel
theorem dX0_isSign_1 : decode cX0_isSign 1 = .ok (.iload_n 1, 1) := by decide +kernel
theorem dX0_isSign_2 : decode cX0_isSign 2 = .ok (.invokevirtual 113, 3) := by decide +kernel
theorem dX0_isSign_5 : decode cX0_isSign 5 = .ok (.ifCond .eq 17, 3) := by decide +kernel
theorem dX0_isSign_8 : decode cX0_isSign 8 = .ok (.aload_n 0, 1) := by decide +kernel
theorem dX0_isSign_9 : decode cX0_isSign 9 = .ok (.getfield 27, 3) := by decide +kernel
theorem dX0_isSign_12 : decode cX0_isSign 12 = .ok (.iload_n 1, 1) := by decide +kernel
theorem dX0_isSign_13 : decode cX0_isSign 13 = .ok (.iaload, 1) := by decide +kernel
theorem dX0_isSign_14 : decode cX0_isSign 14 = .ok (.iload_n 1, 1) := by decide +kernel
theorem dX0_isSign_15 : decode cX0_isSign 15 = .ok (.if_icmp .ne 7, 3) := by decide +kernel
theorem dX0_isSign_18 : decode cX0_isSign 18 = .ok (.iconst 1, 1) := by decide +kernel
theorem dX0_isSign_19 : decode cX0_isSign 19 = .ok (.goto 4, 3) := by decide +kernel
theorem dX0_isSign_22 : decode cX0_isSign 22 = .ok (.iconst 0, 1) := by decide +kernel
theorem dX0_isSign_23 : decode cX0_isSign 23 = .ok (.ireturn, 1) := by decide +kernel
noncomputable def f_X0_isSign (M : ZMem) (x1 : Int32) : Option Int32 := zbind (f_X0_has M x1) (fun r_2 => if r_2 = (zI 0) then some (zI 0) else zchk (zin x1 20) (if (M.1 9 (zix x1)) = x1 then some (zI 1) else some (zI 0)))
set_option maxRecDepth 100000 in
set_option maxHeartbeats 4000000 in
theorem c_X0_isSign (E : ZEv) (M : ZMem) (x1 : Int32) (K : Int32 → Prop) (hk : zOk (f_X0_isSign M x1) K) : zCon lyC E yX0_isSign cX0_isSign 2 (some .boolean) 1 [zrf E 3, .int x1] M (zRp M K) := by
  refine zcon_of (L0 := [(0, zrf E 3), (1, .int x1)]) (by decide) rfl (Nat.le_of_ble_eq_true rfl) (fun G h => ?_)
  have h : zRu lyC E G (zRp M K) cX0_isSign RX0 2 (some .boolean) 1 := h
  unfold f_X0_isSign at hk
  refine zr_aload_n h dX0_isSign_0 0 rfl rfl ?_
  refine zr_iload_n h dX0_isSign_1 1 rfl rfl ?_
  refine zr_callVp h lC_3 zcw_X0_113 (by decide) (c_X0_has E M x1 _ (zOk_bind hk)) rfl rfl (Nat.le_of_ble_eq_true rfl) dX0_isSign_2 (fun r_2 hk => ?_)
  refine zr_if_eq (tgt := 22) h dX0_isSign_5 (by decide) (fun c => ?_) (fun c => ?_)
  · have hk := zOk_t c hk
    refine zr_iconst (v := (zI 0)) h dX0_isSign_22 rfl ?_
    have hk := zOk_some hk
    exact zr_zret h dX0_isSign_23 (by decide) ⟨rfl, _, rfl, hk⟩
  · have hk := zOk_f c hk
    refine zr_aload_n h dX0_isSign_8 0 rfl rfl ?_
    refine zr_getR h zfo_X0_27 lC_3 rfl dX0_isSign_9 ?_
    refine zr_iload_n h dX0_isSign_12 1 rfl rfl ?_
    have hb := zOk_chk hk
    have hk := hb.2
    refine zr_iald h lC_9 hb.1 dX0_isSign_13 ?_
    refine zr_iload_n h dX0_isSign_14 1 rfl rfl ?_
    refine zr_icmp_ne (tgt := 22) h dX0_isSign_15 (by decide) (fun c => ?_) (fun c => ?_)
    · have hk := zOk_t c hk
      refine zr_iconst (v := (zI 1)) h dX0_isSign_18 rfl ?_
      refine zr_goto (tgt := 23) h dX0_isSign_19 (by decide) ?_
      have hk := zOk_some hk
      exact zr_zret h dX0_isSign_23 (by decide) ⟨rfl, _, rfl, hk⟩
    · have hk := zOk_f c hk
      refine zr_iconst (v := (zI 0)) h dX0_isSign_22 rfl ?_
      have hk := zOk_some hk
      exact zr_zret h dX0_isSign_23 (by decide) ⟨rfl, _, rfl, hk⟩
theorem dX0_sizeOf_0 : decode cX0_sizeOf 0 = .ok (.aload_n 0, 1) := by decide +kernel
theorem dX0_sizeOf_1 : decode cX0_sizeOf 1 = .ok (.iload_n 1, 1) := by decide +kernel
theorem dX0_sizeOf_2 : decode cX0_sizeOf 2 = .ok (.invokevirtual 132, 3) := by decide +kernel
theorem dX0_sizeOf_5 : decode cX0_sizeOf 5 = .ok (.istore_n 2, 1) := by decide +kernel
theorem dX0_sizeOf_6 : decode cX0_sizeOf 6 = .ok (.iload_n 2, 1) := by decide +kernel
theorem dX0_sizeOf_7 : decode cX0_sizeOf 7 = .ok (.ifCond .lt 18, 3) := by decide +kernel
theorem dX0_sizeOf_10 : decode cX0_sizeOf 10 = .ok (.iload_n 2, 1) := by decide +kernel
theorem dX0_sizeOf_11 : decode cX0_sizeOf 11 = .ok (.bipush 20, 2) := by decide +kernel
theorem dX0_sizeOf_13 : decode cX0_sizeOf 13 = .ok (.if_icmp .ge 12, 3) := by decide +kernel
theorem dX0_sizeOf_16 : decode cX0_sizeOf 16 = .ok (.aload_n 0, 1) := by decide +kernel
theorem dX0_sizeOf_17 : decode cX0_sizeOf 17 = .ok (.getfield 30, 3) := by decide +kernel
theorem dX0_sizeOf_20 : decode cX0_sizeOf 20 = .ok (.iload_n 2, 1) := by decide +kernel
theorem dX0_sizeOf_21 : decode cX0_sizeOf 21 = .ok (.iaload, 1) := by decide +kernel
theorem dX0_sizeOf_22 : decode cX0_sizeOf 22 = .ok (.goto 4, 3) := by decide +kernel
theorem dX0_sizeOf_25 : decode cX0_sizeOf 25 = .ok (.iconst (-1), 1) := by decide +kernel
theorem dX0_sizeOf_26 : decode cX0_sizeOf 26 = .ok (.ireturn, 1) := by decide +kernel
noncomputable def f_X0_sizeOf (M : ZMem) (x1 : Int32) : Option Int32 := zbind (f_X0_signOf M x1) (fun r_2 => if r_2 < (zI 0) then some (zI (-1)) else if (zI 20) ≤ r_2 then some (zI (-1)) else zchk (zin r_2 20) (some (M.1 10 (zix r_2))))
set_option maxRecDepth 100000 in
set_option maxHeartbeats 4000000 in
theorem c_X0_sizeOf (E : ZEv) (M : ZMem) (x1 : Int32) (K : Int32 → Prop) (hk : zOk (f_X0_sizeOf M x1) K) : zCon lyC E yX0_sizeOf cX0_sizeOf 3 (some .int) 2 [zrf E 3, .int x1] M (zRp M K) := by
  refine zcon_of (L0 := [(0, zrf E 3), (1, .int x1)]) (by decide) rfl (Nat.le_of_ble_eq_true rfl) (fun G h => ?_)
  have h : zRu lyC E G (zRp M K) cX0_sizeOf RX0 3 (some .int) 2 := h
  unfold f_X0_sizeOf at hk
  refine zr_aload_n h dX0_sizeOf_0 0 rfl rfl ?_
  refine zr_iload_n h dX0_sizeOf_1 1 rfl rfl ?_
  refine zr_callVp h lC_3 zcw_X0_132 (by decide) (c_X0_signOf E M x1 _ (zOk_bind hk)) rfl rfl (Nat.le_of_ble_eq_true rfl) dX0_sizeOf_2 (fun r_2 hk => ?_)
  refine zr_istore_n (L' := [(0, zrf E 3), (2, .int r_2)]) h [1, 0] dX0_sizeOf_5 rfl (by decide) rfl ?_
  refine zr_iload_n h dX0_sizeOf_6 1 rfl rfl ?_
  refine zr_if_lt (tgt := 25) h dX0_sizeOf_7 (by decide) (fun c => ?_) (fun c => ?_)
  · have hk := zOk_t c hk
    refine zr_iconst (v := (zI (-1))) h dX0_sizeOf_25 rfl ?_
    have hk := zOk_some hk
    exact zr_iret h dX0_sizeOf_26 ⟨rfl, _, rfl, hk⟩
  · have hk := zOk_f c hk
    refine zr_iload_n h dX0_sizeOf_10 1 rfl rfl ?_
    refine zr_bipush (v := (zI 20)) h dX0_sizeOf_11 (by decide) ?_
    refine zr_icmp_ge (tgt := 25) h dX0_sizeOf_13 (by decide) (fun c => ?_) (fun c => ?_)
    · have hk := zOk_t c hk
      refine zr_iconst (v := (zI (-1))) h dX0_sizeOf_25 rfl ?_
      have hk := zOk_some hk
      exact zr_iret h dX0_sizeOf_26 ⟨rfl, _, rfl, hk⟩
    · have hk := zOk_f c hk
      refine zr_aload_n h dX0_sizeOf_16 0 rfl rfl ?_
      refine zr_getR h zfo_X0_30 lC_3 rfl dX0_sizeOf_17 ?_
      refine zr_iload_n h dX0_sizeOf_20 1 rfl rfl ?_
      have hb := zOk_chk hk
      have hk := hb.2
      refine zr_iald h lC_10 hb.1 dX0_sizeOf_21 ?_
      refine zr_goto (tgt := 26) h dX0_sizeOf_22 (by decide) ?_
      have hk := zOk_some hk
      exact zr_iret h dX0_sizeOf_26 ⟨rfl, _, rfl, hk⟩
theorem dX0_signsHeld_0 : decode cX0_signsHeld 0 = .ok (.aload_n 0, 1) := by decide +kernel
theorem dX0_signsHeld_1 : decode cX0_signsHeld 1 = .ok (.getfield 123, 3) := by decide +kernel
theorem dX0_signsHeld_4 : decode cX0_signsHeld 4 = .ok (.ireturn, 1) := by decide +kernel
noncomputable def f_X0_signsHeld (M : ZMem) : Option Int32 := some (M.1 3 11)
set_option maxRecDepth 100000 in
set_option maxHeartbeats 4000000 in
theorem c_X0_signsHeld (E : ZEv) (M : ZMem) (K : Int32 → Prop) (hk : zOk (f_X0_signsHeld M) K) : zCon lyC E yX0_signsHeld cX0_signsHeld 1 (some .int) 0 [zrf E 3] M (zRp M K) := by
  refine zcon_of (L0 := [(0, zrf E 3)]) (by decide) rfl (Nat.le_of_ble_eq_true rfl) (fun G h => ?_)
  have h : zRu lyC E G (zRp M K) cX0_signsHeld RX0 1 (some .int) 0 := h
  unfold f_X0_signsHeld at hk
  refine zr_aload_n h dX0_signsHeld_0 0 rfl rfl ?_
  refine zr_getI h zfo_X0_123 lC_3 rfl dX0_signsHeld_1 ?_
  have hk := zOk_some hk
  exact zr_iret h dX0_signsHeld_4 ⟨rfl, _, rfl, hk⟩
theorem dX6_isRow_0 : decode cX6_isRow 0 = .ok (.iload_n 0, 1) := by decide +kernel
theorem dX6_isRow_1 : decode cX6_isRow 1 = .ok (.ifCond .lt 13, 3) := by decide +kernel
theorem dX6_isRow_4 : decode cX6_isRow 4 = .ok (.iload_n 0, 1) := by decide +kernel
theorem dX6_isRow_5 : decode cX6_isRow 5 = .ok (.bipush 24, 2) := by decide +kernel
theorem dX6_isRow_7 : decode cX6_isRow 7 = .ok (.if_icmp .ge 7, 3) := by decide +kernel
theorem dX6_isRow_10 : decode cX6_isRow 10 = .ok (.iconst 1, 1) := by decide +kernel
theorem dX6_isRow_11 : decode cX6_isRow 11 = .ok (.goto 4, 3) := by decide +kernel
theorem dX6_isRow_14 : decode cX6_isRow 14 = .ok (.iconst 0, 1) := by decide +kernel
theorem dX6_isRow_15 : decode cX6_isRow 15 = .ok (.ireturn, 1) := by decide +kernel
noncomputable def f_X6_isRow (M : ZMem) (x0 : Int32) : Option Int32 := if x0 < (zI 0) then some (zI 0) else if (zI 24) ≤ x0 then some (zI 0) else some (zI 1)
set_option maxRecDepth 100000 in
set_option maxHeartbeats 4000000 in
theorem c_X6_isRow {ly : List ZEnt} (E : ZEv) (M : ZMem) (x0 : Int32) (K : Int32 → Prop) (hk : zOk (f_X6_isRow M x0) K) : zCon ly E yX6_isRow cX6_isRow 1 (some .boolean) 0 [.int x0] M (zRp M K) := by
  refine zcon_of (L0 := [(0, .int x0)]) (by decide) rfl (Nat.le_of_ble_eq_true rfl) (fun G h => ?_)
  have h : zRu ly E G (zRp M K) cX6_isRow RX6 1 (some .boolean) 0 := h
  unfold f_X6_isRow at hk
  refine zr_iload_n h dX6_isRow_0 0 rfl rfl ?_
  refine zr_if_lt (tgt := 14) h dX6_isRow_1 (by decide) (fun c => ?_) (fun c => ?_)
  · have hk := zOk_t c hk
    refine zr_iconst (v := (zI 0)) h dX6_isRow_14 rfl ?_
    have hk := zOk_some hk
    exact zr_zret h dX6_isRow_15 (by decide) ⟨rfl, _, rfl, hk⟩
  · have hk := zOk_f c hk
    refine zr_iload_n h dX6_isRow_4 0 rfl rfl ?_
    refine zr_bipush (v := (zI 24)) h dX6_isRow_5 (by decide) ?_
    refine zr_icmp_ge (tgt := 14) h dX6_isRow_7 (by decide) (fun c => ?_) (fun c => ?_)
    · have hk := zOk_t c hk
      refine zr_iconst (v := (zI 0)) h dX6_isRow_14 rfl ?_
      have hk := zOk_some hk
      exact zr_zret h dX6_isRow_15 (by decide) ⟨rfl, _, rfl, hk⟩
    · have hk := zOk_f c hk
      refine zr_iconst (v := (zI 1)) h dX6_isRow_10 rfl ?_
      refine zr_goto (tgt := 15) h dX6_isRow_11 (by decide) ?_
      have hk := zOk_some hk
      exact zr_zret h dX6_isRow_15 (by decide) ⟨rfl, _, rfl, hk⟩
theorem dX6_lengthOf_0 : decode cX6_lengthOf 0 = .ok (.iload_n 1, 1) := by decide +kernel
theorem dX6_lengthOf_1 : decode cX6_lengthOf 1 = .ok (.invokestatic 56, 3) := by decide +kernel
theorem dX6_lengthOf_4 : decode cX6_lengthOf 4 = .ok (.ifCond .eq 12, 3) := by decide +kernel
theorem dX6_lengthOf_7 : decode cX6_lengthOf 7 = .ok (.aload_n 0, 1) := by decide +kernel
theorem dX6_lengthOf_8 : decode cX6_lengthOf 8 = .ok (.getfield 15, 3) := by decide +kernel
theorem dX6_lengthOf_11 : decode cX6_lengthOf 11 = .ok (.iload_n 1, 1) := by decide +kernel
theorem dX6_lengthOf_12 : decode cX6_lengthOf 12 = .ok (.iaload, 1) := by decide +kernel
theorem dX6_lengthOf_13 : decode cX6_lengthOf 13 = .ok (.goto 4, 3) := by decide +kernel
theorem dX6_lengthOf_16 : decode cX6_lengthOf 16 = .ok (.iconst 0, 1) := by decide +kernel
theorem dX6_lengthOf_17 : decode cX6_lengthOf 17 = .ok (.ireturn, 1) := by decide +kernel
noncomputable def f_X6_lengthOf (M : ZMem) (x1 : Int32) : Option Int32 := zbind (f_X6_isRow M x1) (fun r_1 => if r_1 = (zI 0) then some (zI 0) else zchk (zin x1 24) (some (M.1 32 (zix x1))))
set_option maxRecDepth 100000 in
set_option maxHeartbeats 4000000 in
theorem c_X6_lengthOf (E : ZEv) (M : ZMem) (x1 : Int32) (K : Int32 → Prop) (hk : zOk (f_X6_lengthOf M x1) K) : zCon lyC E yX6_lengthOf cX6_lengthOf 2 (some .int) 1 [zrf E 30, .int x1] M (zRp M K) := by
  refine zcon_of (L0 := [(0, zrf E 30), (1, .int x1)]) (by decide) rfl (Nat.le_of_ble_eq_true rfl) (fun G h => ?_)
  have h : zRu lyC E G (zRp M K) cX6_lengthOf RX6 2 (some .int) 1 := h
  unfold f_X6_lengthOf at hk
  refine zr_iload_n h dX6_lengthOf_0 1 rfl rfl ?_
  refine zr_callSp h zcw_X6_56 (by decide) (c_X6_isRow E M x1 _ (zOk_bind hk)) rfl rfl (Nat.le_of_ble_eq_true rfl) dX6_lengthOf_1 (fun r_1 hk => ?_)
  refine zr_if_eq (tgt := 16) h dX6_lengthOf_4 (by decide) (fun c => ?_) (fun c => ?_)
  · have hk := zOk_t c hk
    refine zr_iconst (v := (zI 0)) h dX6_lengthOf_16 rfl ?_
    have hk := zOk_some hk
    exact zr_iret h dX6_lengthOf_17 ⟨rfl, _, rfl, hk⟩
  · have hk := zOk_f c hk
    refine zr_aload_n h dX6_lengthOf_7 0 rfl rfl ?_
    refine zr_getR h zfo_X6_15 lC_30 rfl dX6_lengthOf_8 ?_
    refine zr_iload_n h dX6_lengthOf_11 1 rfl rfl ?_
    have hb := zOk_chk hk
    have hk := hb.2
    refine zr_iald h lC_32 hb.1 dX6_lengthOf_12 ?_
    refine zr_goto (tgt := 17) h dX6_lengthOf_13 (by decide) ?_
    have hk := zOk_some hk
    exact zr_iret h dX6_lengthOf_17 ⟨rfl, _, rfl, hk⟩
theorem dX6_signAt_0 : decode cX6_signAt 0 = .ok (.iload_n 1, 1) := by decide +kernel
theorem dX6_signAt_1 : decode cX6_signAt 1 = .ok (.invokestatic 56, 3) := by decide +kernel
theorem dX6_signAt_4 : decode cX6_signAt 4 = .ok (.ifCond .eq 31, 3) := by decide +kernel
theorem dX6_signAt_7 : decode cX6_signAt 7 = .ok (.iload_n 2, 1) := by decide +kernel
theorem dX6_signAt_8 : decode cX6_signAt 8 = .ok (.ifCond .lt 27, 3) := by decide +kernel
theorem dX6_signAt_11 : decode cX6_signAt 11 = .ok (.iload_n 2, 1) := by decide +kernel
theorem dX6_signAt_12 : decode cX6_signAt 12 = .ok (.aload_n 0, 1) := by decide +kernel
theorem dX6_signAt_13 : decode cX6_signAt 13 = .ok (.getfield 15, 3) := by decide +kernel
theorem dX6_signAt_16 : decode cX6_signAt 16 = .ok (.iload_n 1, 1) := by decide +kernel
theorem dX6_signAt_17 : decode cX6_signAt 17 = .ok (.iaload, 1) := by decide +kernel
theorem dX6_signAt_18 : decode cX6_signAt 18 = .ok (.if_icmp .ge 17, 3) := by decide +kernel
theorem dX6_signAt_21 : decode cX6_signAt 21 = .ok (.aload_n 0, 1) := by decide +kernel
theorem dX6_signAt_22 : decode cX6_signAt 22 = .ok (.getfield 9, 3) := by decide +kernel
theorem dX6_signAt_25 : decode cX6_signAt 25 = .ok (.iload_n 1, 1) := by decide +kernel
theorem dX6_signAt_26 : decode cX6_signAt 26 = .ok (.bipush 10, 2) := by decide +kernel
theorem dX6_signAt_28 : decode cX6_signAt 28 = .ok (.imul, 1) := by decide +kernel
theorem dX6_signAt_29 : decode cX6_signAt 29 = .ok (.iload_n 2, 1) := by decide +kernel
theorem dX6_signAt_30 : decode cX6_signAt 30 = .ok (.iadd, 1) := by decide +kernel
theorem dX6_signAt_31 : decode cX6_signAt 31 = .ok (.iaload, 1) := by decide +kernel
theorem dX6_signAt_32 : decode cX6_signAt 32 = .ok (.goto 4, 3) := by decide +kernel
theorem dX6_signAt_35 : decode cX6_signAt 35 = .ok (.iconst (-1), 1) := by decide +kernel
theorem dX6_signAt_36 : decode cX6_signAt 36 = .ok (.ireturn, 1) := by decide +kernel
noncomputable def f_X6_signAt (M : ZMem) (x1 : Int32) (x2 : Int32) : Option Int32 := zbind (f_X6_isRow M x1) (fun r_1 => if r_1 = (zI 0) then some (zI (-1)) else if x2 < (zI 0) then some (zI (-1)) else zchk (zin x1 24) (if (M.1 32 (zix x1)) ≤ x2 then some (zI (-1)) else zchk (zin ((x1 * (zI 10)) + x2) 240) (some (M.1 31 (zix ((x1 * (zI 10)) + x2))))))
set_option maxRecDepth 100000 in
set_option maxHeartbeats 4000000 in
theorem c_X6_signAt (E : ZEv) (M : ZMem) (x1 : Int32) (x2 : Int32) (K : Int32 → Prop) (hk : zOk (f_X6_signAt M x1 x2) K) : zCon lyC E yX6_signAt cX6_signAt 3 (some .int) 1 [zrf E 30, .int x1, .int x2] M (zRp M K) := by
  refine zcon_of (L0 := [(0, zrf E 30), (1, .int x1), (2, .int x2)]) (by decide) rfl (Nat.le_of_ble_eq_true rfl) (fun G h => ?_)
  have h : zRu lyC E G (zRp M K) cX6_signAt RX6 3 (some .int) 1 := h
  unfold f_X6_signAt at hk
  refine zr_iload_n h dX6_signAt_0 1 rfl rfl ?_
  refine zr_callSp h zcw_X6_56 (by decide) (c_X6_isRow E M x1 _ (zOk_bind hk)) rfl rfl (Nat.le_of_ble_eq_true rfl) dX6_signAt_1 (fun r_1 hk => ?_)
  refine zr_if_eq (tgt := 35) h dX6_signAt_4 (by decide) (fun c => ?_) (fun c => ?_)
  · have hk := zOk_t c hk
    refine zr_iconst (v := (zI (-1))) h dX6_signAt_35 rfl ?_
    have hk := zOk_some hk
    exact zr_iret h dX6_signAt_36 ⟨rfl, _, rfl, hk⟩
  · have hk := zOk_f c hk
    refine zr_iload_n h dX6_signAt_7 2 rfl rfl ?_
    refine zr_if_lt (tgt := 35) h dX6_signAt_8 (by decide) (fun c => ?_) (fun c => ?_)
    · have hk := zOk_t c hk
      refine zr_iconst (v := (zI (-1))) h dX6_signAt_35 rfl ?_
      have hk := zOk_some hk
      exact zr_iret h dX6_signAt_36 ⟨rfl, _, rfl, hk⟩
    · have hk := zOk_f c hk
      refine zr_iload_n h dX6_signAt_11 2 rfl rfl ?_
      refine zr_aload_n h dX6_signAt_12 0 rfl rfl ?_
      refine zr_getR h zfo_X6_15 lC_30 rfl dX6_signAt_13 ?_
      refine zr_iload_n h dX6_signAt_16 1 rfl rfl ?_
      have hb := zOk_chk hk
      have hk := hb.2
      refine zr_iald h lC_32 hb.1 dX6_signAt_17 ?_
      refine zr_icmp_ge (tgt := 35) h dX6_signAt_18 (by decide) (fun c => ?_) (fun c => ?_)
      · have hk := zOk_t c hk
        refine zr_iconst (v := (zI (-1))) h dX6_signAt_35 rfl ?_
        have hk := zOk_some hk
        exact zr_iret h dX6_signAt_36 ⟨rfl, _, rfl, hk⟩
      · have hk := zOk_f c hk
        refine zr_aload_n h dX6_signAt_21 0 rfl rfl ?_
        refine zr_getR h zfo_X6_9 lC_30 rfl dX6_signAt_22 ?_
        refine zr_iload_n h dX6_signAt_25 1 rfl rfl ?_
        refine zr_bipush (v := (zI 10)) h dX6_signAt_26 (by decide) ?_
        refine zr_imul h dX6_signAt_28 ?_
        refine zr_iload_n h dX6_signAt_29 2 rfl rfl ?_
        refine zr_iadd h dX6_signAt_30 ?_
        have hb := zOk_chk hk
        have hk := hb.2
        refine zr_iald h lC_31 hb.1 dX6_signAt_31 ?_
        refine zr_goto (tgt := 36) h dX6_signAt_32 (by decide) ?_
        have hk := zOk_some hk
        exact zr_iret h dX6_signAt_36 ⟨rfl, _, rfl, hk⟩
theorem dX6_startPiece_0 : decode cX6_startPiece 0 = .ok (.aload_n 0, 1) := by decide +kernel
theorem dX6_startPiece_1 : decode cX6_startPiece 1 = .ok (.iconst 0, 1) := by decide +kernel
theorem dX6_startPiece_2 : decode cX6_startPiece 2 = .ok (.putfield 101, 3) := by decide +kernel
theorem dX6_startPiece_5 : decode cX6_startPiece 5 = .ok (.aload_n 0, 1) := by decide +kernel
theorem dX6_startPiece_6 : decode cX6_startPiece 6 = .ok (.iconst 1, 1) := by decide +kernel
theorem dX6_startPiece_7 : decode cX6_startPiece 7 = .ok (.putfield 107, 3) := by decide +kernel
theorem dX6_startPiece_10 : decode cX6_startPiece 10 = .ok (.iconst 0, 1) := by decide +kernel
theorem dX6_startPiece_11 : decode cX6_startPiece 11 = .ok (.istore_n 2, 1) := by decide +kernel
theorem dX6_startPiece_12 : decode cX6_startPiece 12 = .ok (.iload_n 2, 1) := by decide +kernel
theorem dX6_startPiece_13 : decode cX6_startPiece 13 = .ok (.bipush 24, 2) := by decide +kernel
theorem dX6_startPiece_15 : decode cX6_startPiece 15 = .ok (.if_icmp .ge 85, 3) := by decide +kernel
theorem dX6_startPiece_18 : decode cX6_startPiece 18 = .ok (.iconst 0, 1) := by decide +kernel
theorem dX6_startPiece_19 : decode cX6_startPiece 19 = .ok (.istore_n 3, 1) := by decide +kernel
theorem dX6_startPiece_20 : decode cX6_startPiece 20 = .ok (.iload_n 3, 1) := by decide +kernel
theorem dX6_startPiece_21 : decode cX6_startPiece 21 = .ok (.aload_n 0, 1) := by decide +kernel
theorem dX6_startPiece_22 : decode cX6_startPiece 22 = .ok (.getfield 15, 3) := by decide +kernel
theorem dX6_startPiece_25 : decode cX6_startPiece 25 = .ok (.iload_n 2, 1) := by decide +kernel
theorem dX6_startPiece_26 : decode cX6_startPiece 26 = .ok (.iaload, 1) := by decide +kernel
theorem dX6_startPiece_27 : decode cX6_startPiece 27 = .ok (.if_icmp .ge 67, 3) := by decide +kernel
theorem dX6_startPiece_30 : decode cX6_startPiece 30 = .ok (.iload_n 3, 1) := by decide +kernel
theorem dX6_startPiece_31 : decode cX6_startPiece 31 = .ok (.bipush 10, 2) := by decide +kernel
theorem dX6_startPiece_33 : decode cX6_startPiece 33 = .ok (.if_icmp .ge 61, 3) := by decide +kernel
theorem dX6_startPiece_36 : decode cX6_startPiece 36 = .ok (.aload_n 0, 1) := by decide +kernel
theorem dX6_startPiece_37 : decode cX6_startPiece 37 = .ok (.getfield 9, 3) := by decide +kernel
theorem dX6_startPiece_40 : decode cX6_startPiece 40 = .ok (.iload_n 2, 1) := by decide +kernel
theorem dX6_startPiece_41 : decode cX6_startPiece 41 = .ok (.bipush 10, 2) := by decide +kernel
theorem dX6_startPiece_43 : decode cX6_startPiece 43 = .ok (.imul, 1) := by decide +kernel
theorem dX6_startPiece_44 : decode cX6_startPiece 44 = .ok (.iload_n 3, 1) := by decide +kernel
theorem dX6_startPiece_45 : decode cX6_startPiece 45 = .ok (.iadd, 1) := by decide +kernel
theorem dX6_startPiece_46 : decode cX6_startPiece 46 = .ok (.iaload, 1) := by decide +kernel
theorem dX6_startPiece_47 : decode cX6_startPiece 47 = .ok (.iload_n 1, 1) := by decide +kernel
theorem dX6_startPiece_48 : decode cX6_startPiece 48 = .ok (.if_icmp .ne 40, 3) := by decide +kernel
theorem dX6_startPiece_51 : decode cX6_startPiece 51 = .ok (.aload_n 0, 1) := by decide +kernel
theorem dX6_startPiece_52 : decode cX6_startPiece 52 = .ok (.getfield 101, 3) := by decide +kernel
theorem dX6_startPiece_55 : decode cX6_startPiece 55 = .ok (.aload_n 0, 1) := by decide +kernel
theorem dX6_startPiece_56 : decode cX6_startPiece 56 = .ok (.getfield 18, 3) := by decide +kernel
theorem dX6_startPiece_59 : decode cX6_startPiece 59 = .ok (.arraylength, 1) := by decide +kernel
theorem dX6_startPiece_60 : decode cX6_startPiece 60 = .ok (.if_icmp .ge 28, 3) := by decide +kernel
theorem dX6_startPiece_63 : decode cX6_startPiece 63 = .ok (.aload_n 0, 1) := by decide +kernel
theorem dX6_startPiece_64 : decode cX6_startPiece 64 = .ok (.getfield 18, 3) := by decide +kernel
theorem dX6_startPiece_67 : decode cX6_startPiece 67 = .ok (.aload_n 0, 1) := by decide +kernel
theorem dX6_startPiece_68 : decode cX6_startPiece 68 = .ok (.getfield 101, 3) := by decide +kernel
theorem dX6_startPiece_71 : decode cX6_startPiece 71 = .ok (.iload_n 2, 1) := by decide +kernel
theorem dX6_startPiece_72 : decode cX6_startPiece 72 = .ok (.bipush 10, 2) := by decide +kernel
theorem dX6_startPiece_74 : decode cX6_startPiece 74 = .ok (.imul, 1) := by decide +kernel
theorem dX6_startPiece_75 : decode cX6_startPiece 75 = .ok (.iload_n 3, 1) := by decide +kernel
theorem dX6_startPiece_76 : decode cX6_startPiece 76 = .ok (.iadd, 1) := by decide +kernel
theorem dX6_startPiece_77 : decode cX6_startPiece 77 = .ok (.iastore, 1) := by decide +kernel
theorem dX6_startPiece_78 : decode cX6_startPiece 78 = .ok (.aload_n 0, 1) := by decide +kernel
theorem dX6_startPiece_79 : decode cX6_startPiece 79 = .ok (.dup, 1) := by decide +kernel
theorem dX6_startPiece_80 : decode cX6_startPiece 80 = .ok (.getfield 101, 3) := by decide +kernel
theorem dX6_startPiece_83 : decode cX6_startPiece 83 = .ok (.iconst 1, 1) := by decide +kernel
theorem dX6_startPiece_84 : decode cX6_startPiece 84 = .ok (.iadd, 1) := by decide +kernel
theorem dX6_startPiece_85 : decode cX6_startPiece 85 = .ok (.putfield 101, 3) := by decide +kernel
theorem dX6_startPiece_88 : decode cX6_startPiece 88 = .ok (.iinc 3 1, 3) := by decide +kernel
theorem dX6_startPiece_91 : decode cX6_startPiece 91 = .ok (.goto (-71), 3) := by decide +kernel
theorem dX6_startPiece_94 : decode cX6_startPiece 94 = .ok (.iinc 2 1, 3) := by decide +kernel
theorem dX6_startPiece_97 : decode cX6_startPiece 97 = .ok (.goto (-85), 3) := by decide +kernel
theorem dX6_startPiece_100 : decode cX6_startPiece 100 = .ok (.return_, 1) := by decide +kernel
noncomputable def f_X6_startPiece_L20 (x1 : Int32) (x2 : Int32) (s : (ZMem × Int32)) : Option ((ZMem × Int32) ⊕ (ZMem)) := zchk (zin x2 24) (if (s.1.1 32 (zix x2)) ≤ s.2 then some (.inr s.1) else if (zI 10) ≤ s.2 then some (.inr s.1) else zchk (zin ((x2 * (zI 10)) + s.2) 240) (if (s.1.1 31 (zix ((x2 * (zI 10)) + s.2))) = x1 then if (zI 240) ≤ (s.1.1 30 3) then zbnd (s.2 + (zI 1)) (fun x3_88 => some (.inl (s.1, x3_88))) else zchk (zin (s.1.1 30 3) 240) (zbnd (zstI s.1 33 (zix (s.1.1 30 3)) ((x2 * (zI 10)) + s.2)) (fun M_77 => zbnd (zstI M_77 30 3 ((M_77.1 30 3) + (zI 1))) (fun M_85 => zbnd (s.2 + (zI 1)) (fun x3_88 => some (.inl (M_85, x3_88)))))) else zbnd (s.2 + (zI 1)) (fun x3_88 => some (.inl (s.1, x3_88)))))
set_option maxRecDepth 100000 in
set_option maxHeartbeats 4000000 in
theorem w_X6_startPiece_L20 {E : ZEv} {G : ZG} {K : ZMem → Prop} (h : zRu lyC E G (zRv K) cX6_startPiece RX6 4 none 0) (x1 : Int32) (x2 : Int32) (s : (ZMem × Int32)) (hk : zOk (zloop (f_X6_startPiece_L20 x1 x2) s) (fun e => G e 94 [(0, zrf E 30), (1, .int x1), (2, .int x2)] [])) : G s.1 20 [(0, zrf E 30), (1, .int x1), (2, .int x2), (3, .int s.2)] [] := by
  refine zloop_walk (P := fun s => G s.1 20 [(0, zrf E 30), (1, .int x1), (2, .int x2), (3, .int s.2)] []) hk (fun s hk => ?_)
  unfold f_X6_startPiece_L20 at hk
  refine zr_iload_n h dX6_startPiece_20 3 rfl rfl ?_
  refine zr_aload_n h dX6_startPiece_21 0 rfl rfl ?_
  refine zr_getR h zfo_X6_15 lC_30 rfl dX6_startPiece_22 ?_
  refine zr_iload_n h dX6_startPiece_25 2 rfl rfl ?_
  have hb := zOk_chk hk
  have hk := hb.2
  refine zr_iald h lC_32 hb.1 dX6_startPiece_26 ?_
  refine zr_icmp_ge (tgt := 94) h dX6_startPiece_27 (by decide) (fun c => ?_) (fun c => ?_)
  · have hk := zOk_t c hk
    have hk := zOk_some hk
    exact zr_weak h [0, 1, 2] rfl hk
  · have hk := zOk_f c hk
    refine zr_iload_n h dX6_startPiece_30 3 rfl rfl ?_
    refine zr_bipush (v := (zI 10)) h dX6_startPiece_31 (by decide) ?_
    refine zr_icmp_ge (tgt := 94) h dX6_startPiece_33 (by decide) (fun c => ?_) (fun c => ?_)
    · have hk := zOk_t c hk
      have hk := zOk_some hk
      exact zr_weak h [0, 1, 2] rfl hk
    · have hk := zOk_f c hk
      refine zr_aload_n h dX6_startPiece_36 0 rfl rfl ?_
      refine zr_getR h zfo_X6_9 lC_30 rfl dX6_startPiece_37 ?_
      refine zr_iload_n h dX6_startPiece_40 2 rfl rfl ?_
      refine zr_bipush (v := (zI 10)) h dX6_startPiece_41 (by decide) ?_
      refine zr_imul h dX6_startPiece_43 ?_
      refine zr_iload_n h dX6_startPiece_44 3 rfl rfl ?_
      refine zr_iadd h dX6_startPiece_45 ?_
      have hb := zOk_chk hk
      have hk := hb.2
      refine zr_iald h lC_31 hb.1 dX6_startPiece_46 ?_
      refine zr_iload_n h dX6_startPiece_47 1 rfl rfl ?_
      refine zr_icmp_ne (tgt := 88) h dX6_startPiece_48 (by decide) (fun c => ?_) (fun c => ?_)
      · have hk := zOk_t c hk
        refine zr_aload_n h dX6_startPiece_51 0 rfl rfl ?_
        refine zr_getI h zfo_X6_101 lC_30 rfl dX6_startPiece_52 ?_
        refine zr_aload_n h dX6_startPiece_55 0 rfl rfl ?_
        refine zr_getR h zfo_X6_18 lC_30 rfl dX6_startPiece_56 ?_
        refine zr_alen h (by decide) lC_33 dX6_startPiece_59 ?_
        refine zr_icmp_ge (tgt := 88) h dX6_startPiece_60 (by decide) (fun c => ?_) (fun c => ?_)
        · have hk := zOk_t c hk
          obtain ⟨x3_88, ex⟩ : ∃ y : Int32, y = s.2 + (zI 1) := ⟨_, rfl⟩
          have hk := zOk_bnd ex hk
          refine zr_iinc (v := x3_88) (L' := [(0, zrf E 30), (1, .int x1), (2, .int x2), (3, .int x3_88)]) h 3 [1, 2, 3, 0] dX6_startPiece_88 rfl (by rw [ex]; rfl) (by decide) rfl ?_
          refine zr_goto (tgt := 20) h dX6_startPiece_91 (by decide) ?_
          have hk := zOk_some hk
          exact zr_weak h [0, 1, 2, 3] rfl hk
        · have hk := zOk_f c hk
          refine zr_aload_n h dX6_startPiece_63 0 rfl rfl ?_
          refine zr_getR h zfo_X6_18 lC_30 rfl dX6_startPiece_64 ?_
          refine zr_aload_n h dX6_startPiece_67 0 rfl rfl ?_
          refine zr_getI h zfo_X6_101 lC_30 rfl dX6_startPiece_68 ?_
          refine zr_iload_n h dX6_startPiece_71 2 rfl rfl ?_
          refine zr_bipush (v := (zI 10)) h dX6_startPiece_72 (by decide) ?_
          refine zr_imul h dX6_startPiece_74 ?_
          refine zr_iload_n h dX6_startPiece_75 3 rfl rfl ?_
          refine zr_iadd h dX6_startPiece_76 ?_
          have hb := zOk_chk hk
          have hk := hb.2
          refine zr_iast h lC_33 hb.1 dX6_startPiece_77 ?_
          refine zr_mem (fun M_77 eM => ?_)
          have hk := zOk_bnd eM hk
          refine zr_aload_n h dX6_startPiece_78 0 rfl rfl ?_
          refine zr_dup h dX6_startPiece_79 rfl ?_
          refine zr_getI h zfo_X6_101 lC_30 rfl dX6_startPiece_80 ?_
          refine zr_iconst (v := (zI 1)) h dX6_startPiece_83 rfl ?_
          refine zr_iadd h dX6_startPiece_84 ?_
          refine zr_putI h zfp_X6_101 lC_30 rfl dX6_startPiece_85 ?_
          refine zr_mem (fun M_85 eM => ?_)
          have hk := zOk_bnd eM hk
          obtain ⟨x3_88, ex⟩ : ∃ y : Int32, y = s.2 + (zI 1) := ⟨_, rfl⟩
          have hk := zOk_bnd ex hk
          refine zr_iinc (v := x3_88) (L' := [(0, zrf E 30), (1, .int x1), (2, .int x2), (3, .int x3_88)]) h 3 [1, 2, 3, 0] dX6_startPiece_88 rfl (by rw [ex]; rfl) (by decide) rfl ?_
          refine zr_goto (tgt := 20) h dX6_startPiece_91 (by decide) ?_
          have hk := zOk_some hk
          exact zr_weak h [0, 1, 2, 3] rfl hk
      · have hk := zOk_f c hk
        obtain ⟨x3_88, ex⟩ : ∃ y : Int32, y = s.2 + (zI 1) := ⟨_, rfl⟩
        have hk := zOk_bnd ex hk
        refine zr_iinc (v := x3_88) (L' := [(0, zrf E 30), (1, .int x1), (2, .int x2), (3, .int x3_88)]) h 3 [1, 2, 3, 0] dX6_startPiece_88 rfl (by rw [ex]; rfl) (by decide) rfl ?_
        refine zr_goto (tgt := 20) h dX6_startPiece_91 (by decide) ?_
        have hk := zOk_some hk
        exact zr_weak h [0, 1, 2, 3] rfl hk
noncomputable def f_X6_startPiece_L12 (x1 : Int32) (s : (ZMem × Int32)) : Option ((ZMem × Int32) ⊕ (ZMem)) := if (zI 24) ≤ s.2 then some (.inr s.1) else zbind (zloop (f_X6_startPiece_L20 x1 s.2) (s.1, (zI 0))) (fun e20 => zbnd (s.2 + (zI 1)) (fun x2_94 => some (.inl (e20, x2_94))))
set_option maxRecDepth 100000 in
set_option maxHeartbeats 4000000 in
theorem w_X6_startPiece_L12 {E : ZEv} {G : ZG} {K : ZMem → Prop} (h : zRu lyC E G (zRv K) cX6_startPiece RX6 4 none 0) (x1 : Int32) (s : (ZMem × Int32)) (hk : zOk (zloop (f_X6_startPiece_L12 x1) s) (fun e => G e 100 [] [])) : G s.1 12 [(0, zrf E 30), (1, .int x1), (2, .int s.2)] [] := by
  refine zloop_walk (P := fun s => G s.1 12 [(0, zrf E 30), (1, .int x1), (2, .int s.2)] []) hk (fun s hk => ?_)
  unfold f_X6_startPiece_L12 at hk
  refine zr_iload_n h dX6_startPiece_12 2 rfl rfl ?_
  refine zr_bipush (v := (zI 24)) h dX6_startPiece_13 (by decide) ?_
  refine zr_icmp_ge (tgt := 100) h dX6_startPiece_15 (by decide) (fun c => ?_) (fun c => ?_)
  · have hk := zOk_t c hk
    have hk := zOk_some hk
    exact zr_weak h [] rfl hk
  · have hk := zOk_f c hk
    refine zr_iconst (v := (zI 0)) h dX6_startPiece_18 rfl ?_
    refine zr_istore_n (L' := [(0, zrf E 30), (1, .int x1), (2, .int s.2), (3, .int (zI 0))]) h [1, 2, 3, 0] dX6_startPiece_19 rfl (by decide) rfl ?_
    refine w_X6_startPiece_L20 h x1 s.2 (s.1, (zI 0)) (zOk_mono (zOk_bind hk) (fun e20 hk => ?_))
    obtain ⟨x2_94, ex⟩ : ∃ y : Int32, y = s.2 + (zI 1) := ⟨_, rfl⟩
    have hk := zOk_bnd ex hk
    refine zr_iinc (v := x2_94) (L' := [(0, zrf E 30), (1, .int x1), (2, .int x2_94)]) h 2 [1, 2, 0] dX6_startPiece_94 rfl (by rw [ex]; rfl) (by decide) rfl ?_
    refine zr_goto (tgt := 12) h dX6_startPiece_97 (by decide) ?_
    have hk := zOk_some hk
    exact zr_weak h [0, 1, 2] rfl hk
noncomputable def f_X6_startPiece (M : ZMem) (x1 : Int32) : Option ZMem := zbnd (zstI M 30 3 (zI 0)) (fun M_2 => zbnd (zstI M_2 30 4 (zI 1)) (fun M_7 => zbind (zloop (f_X6_startPiece_L12 x1) (M_7, (zI 0))) (fun e12 => some e12)))
set_option maxRecDepth 100000 in
set_option maxHeartbeats 4000000 in
theorem c_X6_startPiece (E : ZEv) (M : ZMem) (x1 : Int32) (K : ZMem → Prop) (hk : zOk (f_X6_startPiece M x1) K) : zCon lyC E yX6_startPiece cX6_startPiece 4 none 0 [zrf E 30, .int x1] M (zRv K) := by
  refine zcon_of (L0 := [(0, zrf E 30), (1, .int x1)]) (by decide) rfl (Nat.le_of_ble_eq_true rfl) (fun G h => ?_)
  have h : zRu lyC E G (zRv K) cX6_startPiece RX6 4 none 0 := h
  unfold f_X6_startPiece at hk
  refine zr_aload_n h dX6_startPiece_0 0 rfl rfl ?_
  refine zr_iconst (v := (zI 0)) h dX6_startPiece_1 rfl ?_
  refine zr_putI h zfp_X6_101 lC_30 rfl dX6_startPiece_2 ?_
  refine zr_mem (fun M_2 eM => ?_)
  have hk := zOk_bnd eM hk
  refine zr_aload_n h dX6_startPiece_5 0 rfl rfl ?_
  refine zr_iconst (v := (zI 1)) h dX6_startPiece_6 rfl ?_
  refine zr_putI h zfp_X6_107 lC_30 rfl dX6_startPiece_7 ?_
  refine zr_mem (fun M_7 eM => ?_)
  have hk := zOk_bnd eM hk
  refine zr_iconst (v := (zI 0)) h dX6_startPiece_10 rfl ?_
  refine zr_istore_n (L' := [(0, zrf E 30), (1, .int x1), (2, .int (zI 0))]) h [1, 2, 0] dX6_startPiece_11 rfl (by decide) rfl ?_
  refine w_X6_startPiece_L12 h x1 (M_7, (zI 0)) (zOk_mono (zOk_bind hk) (fun e12 hk => ?_))
  have hk := zOk_some hk
  exact zr_vret h dX6_startPiece_100 ⟨rfl, hk⟩
theorem dX6_signBehind_0 : decode cX6_signBehind 0 = .ok (.iload_n 1, 1) := by decide +kernel
theorem dX6_signBehind_1 : decode cX6_signBehind 1 = .ok (.bipush 10, 2) := by decide +kernel
theorem dX6_signBehind_3 : decode cX6_signBehind 3 = .ok (.idiv, 1) := by decide +kernel
theorem dX6_signBehind_4 : decode cX6_signBehind 4 = .ok (.istore_n 2, 1) := by decide +kernel
theorem dX6_signBehind_5 : decode cX6_signBehind 5 = .ok (.iload_n 1, 1) := by decide +kernel
theorem dX6_signBehind_6 : decode cX6_signBehind 6 = .ok (.bipush 10, 2) := by decide +kernel
theorem dX6_signBehind_8 : decode cX6_signBehind 8 = .ok (.irem, 1) := by decide +kernel
theorem dX6_signBehind_9 : decode cX6_signBehind 9 = .ok (.aload_n 0, 1) := by decide +kernel
theorem dX6_signBehind_10 : decode cX6_signBehind 10 = .ok (.getfield 107, 3) := by decide +kernel
theorem dX6_signBehind_13 : decode cX6_signBehind 13 = .ok (.iadd, 1) := by decide +kernel
theorem dX6_signBehind_14 : decode cX6_signBehind 14 = .ok (.istore_n 3, 1) := by decide +kernel
theorem dX6_signBehind_15 : decode cX6_signBehind 15 = .ok (.iload_n 2, 1) := by decide +kernel
theorem dX6_signBehind_16 : decode cX6_signBehind 16 = .ok (.ifCond .lt 23, 3) := by decide +kernel
theorem dX6_signBehind_19 : decode cX6_signBehind 19 = .ok (.iload_n 2, 1) := by decide +kernel
theorem dX6_signBehind_20 : decode cX6_signBehind 20 = .ok (.bipush 24, 2) := by decide +kernel
theorem dX6_signBehind_22 : decode cX6_signBehind 22 = .ok (.if_icmp .ge 17, 3) := by decide +kernel
theorem dX6_signBehind_25 : decode cX6_signBehind 25 = .ok (.iload_n 3, 1) := by decide +kernel
theorem dX6_signBehind_26 : decode cX6_signBehind 26 = .ok (.aload_n 0, 1) := by decide +kernel
theorem dX6_signBehind_27 : decode cX6_signBehind 27 = .ok (.getfield 15, 3) := by decide +kernel
theorem dX6_signBehind_30 : decode cX6_signBehind 30 = .ok (.iload_n 2, 1) := by decide +kernel
theorem dX6_signBehind_31 : decode cX6_signBehind 31 = .ok (.iaload, 1) := by decide +kernel
theorem dX6_signBehind_32 : decode cX6_signBehind 32 = .ok (.if_icmp .ge 7, 3) := by decide +kernel
theorem dX6_signBehind_35 : decode cX6_signBehind 35 = .ok (.iconst 1, 1) := by decide +kernel
theorem dX6_signBehind_36 : decode cX6_signBehind 36 = .ok (.goto 4, 3) := by decide +kernel
theorem dX6_signBehind_39 : decode cX6_signBehind 39 = .ok (.iconst 0, 1) := by decide +kernel
theorem dX6_signBehind_40 : decode cX6_signBehind 40 = .ok (.istore 4, 2) := by decide +kernel
theorem dX6_signBehind_42 : decode cX6_signBehind 42 = .ok (.iload 4, 2) := by decide +kernel
theorem dX6_signBehind_44 : decode cX6_signBehind 44 = .ok (.ifCond .eq 17, 3) := by decide +kernel
theorem dX6_signBehind_47 : decode cX6_signBehind 47 = .ok (.aload_n 0, 1) := by decide +kernel
theorem dX6_signBehind_48 : decode cX6_signBehind 48 = .ok (.getfield 9, 3) := by decide +kernel
theorem dX6_signBehind_51 : decode cX6_signBehind 51 = .ok (.iload_n 2, 1) := by decide +kernel
theorem dX6_signBehind_52 : decode cX6_signBehind 52 = .ok (.bipush 10, 2) := by decide +kernel
theorem dX6_signBehind_54 : decode cX6_signBehind 54 = .ok (.imul, 1) := by decide +kernel
theorem dX6_signBehind_55 : decode cX6_signBehind 55 = .ok (.iload_n 3, 1) := by decide +kernel
theorem dX6_signBehind_56 : decode cX6_signBehind 56 = .ok (.iadd, 1) := by decide +kernel
theorem dX6_signBehind_57 : decode cX6_signBehind 57 = .ok (.iaload, 1) := by decide +kernel
theorem dX6_signBehind_58 : decode cX6_signBehind 58 = .ok (.goto 4, 3) := by decide +kernel
theorem dX6_signBehind_61 : decode cX6_signBehind 61 = .ok (.iconst (-1), 1) := by decide +kernel
theorem dX6_signBehind_62 : decode cX6_signBehind 62 = .ok (.ireturn, 1) := by decide +kernel
noncomputable def f_X6_signBehind_40 (M : ZMem) (x2 : Int32) (x3 : Int32) (v0 : Int32) : Option Int32 := if v0 = (zI 0) then some (zI (-1)) else zchk (zin ((x2 * (zI 10)) + x3) 240) (some (M.1 31 (zix ((x2 * (zI 10)) + x3))))
set_option maxRecDepth 100000 in
set_option maxHeartbeats 4000000 in
theorem w_X6_signBehind_40 {E : ZEv} {G : ZG} {K : Int32 → Prop} (M : ZMem) (h : zRu lyC E G (zRp M K) cX6_signBehind RX6 5 (some .int) 0) (x2 : Int32) (x3 : Int32) (v0 : Int32) (hk : zOk (f_X6_signBehind_40 M x2 x3 v0) K) : G M 40 [(0, zrf E 30), (2, .int x2), (3, .int x3)] [.int v0] := by
  unfold f_X6_signBehind_40 at hk
  refine zr_istore (L' := [(0, zrf E 30), (2, .int x2), (3, .int x3), (4, .int v0)]) h [1, 2, 3, 0] dX6_signBehind_40 (by decide) rfl ?_
  refine zr_iload h dX6_signBehind_42 3 rfl ?_
  refine zr_if_eq (tgt := 61) h dX6_signBehind_44 (by decide) (fun c => ?_) (fun c => ?_)
  · have hk := zOk_t c hk
    refine zr_iconst (v := (zI (-1))) h dX6_signBehind_61 rfl ?_
    have hk := zOk_some hk
    exact zr_iret h dX6_signBehind_62 ⟨rfl, _, rfl, hk⟩
  · have hk := zOk_f c hk
    refine zr_aload_n h dX6_signBehind_47 0 rfl rfl ?_
    refine zr_getR h zfo_X6_9 lC_30 rfl dX6_signBehind_48 ?_
    refine zr_iload_n h dX6_signBehind_51 1 rfl rfl ?_
    refine zr_bipush (v := (zI 10)) h dX6_signBehind_52 (by decide) ?_
    refine zr_imul h dX6_signBehind_54 ?_
    refine zr_iload_n h dX6_signBehind_55 2 rfl rfl ?_
    refine zr_iadd h dX6_signBehind_56 ?_
    have hb := zOk_chk hk
    have hk := hb.2
    refine zr_iald h lC_31 hb.1 dX6_signBehind_57 ?_
    refine zr_goto (tgt := 62) h dX6_signBehind_58 (by decide) ?_
    have hk := zOk_some hk
    exact zr_iret h dX6_signBehind_62 ⟨rfl, _, rfl, hk⟩
noncomputable def f_X6_signBehind_39 (M : ZMem) (x2 : Int32) (x3 : Int32) : Option Int32 := f_X6_signBehind_40 M x2 x3 (zI 0)
set_option maxRecDepth 100000 in
set_option maxHeartbeats 4000000 in
theorem w_X6_signBehind_39 {E : ZEv} {G : ZG} {K : Int32 → Prop} (M : ZMem) (h : zRu lyC E G (zRp M K) cX6_signBehind RX6 5 (some .int) 0) (x2 : Int32) (x3 : Int32) (hk : zOk (f_X6_signBehind_39 M x2 x3) K) : G M 39 [(0, zrf E 30), (2, .int x2), (3, .int x3)] [] := by
  unfold f_X6_signBehind_39 at hk
  refine zr_iconst (v := (zI 0)) h dX6_signBehind_39 rfl ?_
  exact w_X6_signBehind_40 M h x2 x3 (zI 0) hk
noncomputable def f_X6_signBehind (M : ZMem) (x1 : Int32) : Option Int32 := zbnd (x1 / (zI 10)) (fun x2_4 => zbnd ((x1 - x1 / (zI 10) * (zI 10)) + (M.1 30 4)) (fun x3_14 => if x2_4 < (zI 0) then f_X6_signBehind_39 M x2_4 x3_14 else if (zI 24) ≤ x2_4 then f_X6_signBehind_39 M x2_4 x3_14 else zchk (zin x2_4 24) (if (M.1 32 (zix x2_4)) ≤ x3_14 then f_X6_signBehind_39 M x2_4 x3_14 else f_X6_signBehind_40 M x2_4 x3_14 (zI 1))))
set_option maxRecDepth 100000 in
set_option maxHeartbeats 4000000 in
theorem c_X6_signBehind (E : ZEv) (M : ZMem) (x1 : Int32) (K : Int32 → Prop) (hk : zOk (f_X6_signBehind M x1) K) : zCon lyC E yX6_signBehind cX6_signBehind 5 (some .int) 0 [zrf E 30, .int x1] M (zRp M K) := by
  refine zcon_of (L0 := [(0, zrf E 30), (1, .int x1)]) (by decide) rfl (Nat.le_of_ble_eq_true rfl) (fun G h => ?_)
  have h : zRu lyC E G (zRp M K) cX6_signBehind RX6 5 (some .int) 0 := h
  unfold f_X6_signBehind at hk
  refine zr_iload_n h dX6_signBehind_0 1 rfl rfl ?_
  refine zr_bipush (v := (zI 10)) h dX6_signBehind_1 (by decide) ?_
  refine zr_idiv h dX6_signBehind_3 (by decide) ?_
  refine zr_topi (fun x2_4 ex => ?_)
  have hk := zOk_bnd ex hk
  refine zr_istore_n (L' := [(0, zrf E 30), (1, .int x1), (2, .int x2_4)]) h [1, 2, 0] dX6_signBehind_4 rfl (by decide) rfl ?_
  refine zr_iload_n h dX6_signBehind_5 1 rfl rfl ?_
  refine zr_bipush (v := (zI 10)) h dX6_signBehind_6 (by decide) ?_
  refine zr_irem h dX6_signBehind_8 (by decide) ?_
  refine zr_aload_n h dX6_signBehind_9 0 rfl rfl ?_
  refine zr_getI h zfo_X6_107 lC_30 rfl dX6_signBehind_10 ?_
  refine zr_iadd h dX6_signBehind_13 ?_
  refine zr_topi (fun x3_14 ex => ?_)
  have hk := zOk_bnd ex hk
  refine zr_istore_n (L' := [(0, zrf E 30), (2, .int x2_4), (3, .int x3_14)]) h [1, 3, 0] dX6_signBehind_14 rfl (by decide) rfl ?_
  refine zr_iload_n h dX6_signBehind_15 1 rfl rfl ?_
  refine zr_if_lt (tgt := 39) h dX6_signBehind_16 (by decide) (fun c => ?_) (fun c => ?_)
  · have hk := zOk_t c hk
    exact w_X6_signBehind_39 M h x2_4 x3_14 hk
  · have hk := zOk_f c hk
    refine zr_iload_n h dX6_signBehind_19 1 rfl rfl ?_
    refine zr_bipush (v := (zI 24)) h dX6_signBehind_20 (by decide) ?_
    refine zr_icmp_ge (tgt := 39) h dX6_signBehind_22 (by decide) (fun c => ?_) (fun c => ?_)
    · have hk := zOk_t c hk
      exact w_X6_signBehind_39 M h x2_4 x3_14 hk
    · have hk := zOk_f c hk
      refine zr_iload_n h dX6_signBehind_25 2 rfl rfl ?_
      refine zr_aload_n h dX6_signBehind_26 0 rfl rfl ?_
      refine zr_getR h zfo_X6_15 lC_30 rfl dX6_signBehind_27 ?_
      refine zr_iload_n h dX6_signBehind_30 1 rfl rfl ?_
      have hb := zOk_chk hk
      have hk := hb.2
      refine zr_iald h lC_32 hb.1 dX6_signBehind_31 ?_
      refine zr_icmp_ge (tgt := 39) h dX6_signBehind_32 (by decide) (fun c => ?_) (fun c => ?_)
      · have hk := zOk_t c hk
        exact w_X6_signBehind_39 M h x2_4 x3_14 hk
      · have hk := zOk_f c hk
        refine zr_iconst (v := (zI 1)) h dX6_signBehind_35 rfl ?_
        refine zr_goto (tgt := 40) h dX6_signBehind_36 (by decide) ?_
        exact w_X6_signBehind_40 M h x2_4 x3_14 (zI 1) hk
theorem dX6_followers_0 : decode cX6_followers 0 = .ok (.iconst 0, 1) := by decide +kernel
theorem dX6_followers_1 : decode cX6_followers 1 = .ok (.istore_n 1, 1) := by decide +kernel
theorem dX6_followers_2 : decode cX6_followers 2 = .ok (.iconst 0, 1) := by decide +kernel
theorem dX6_followers_3 : decode cX6_followers 3 = .ok (.istore_n 2, 1) := by decide +kernel
theorem dX6_followers_4 : decode cX6_followers 4 = .ok (.iload_n 2, 1) := by decide +kernel
theorem dX6_followers_5 : decode cX6_followers 5 = .ok (.aload_n 0, 1) := by decide +kernel
theorem dX6_followers_6 : decode cX6_followers 6 = .ok (.getfield 101, 3) := by decide +kernel
theorem dX6_followers_9 : decode cX6_followers 9 = .ok (.if_icmp .ge 26, 3) := by decide +kernel
theorem dX6_followers_12 : decode cX6_followers 12 = .ok (.iload_n 1, 1) := by decide +kernel
theorem dX6_followers_13 : decode cX6_followers 13 = .ok (.iconst 1, 1) := by decide +kernel
theorem dX6_followers_14 : decode cX6_followers 14 = .ok (.aload_n 0, 1) := by decide +kernel
theorem dX6_followers_15 : decode cX6_followers 15 = .ok (.aload_n 0, 1) := by decide +kernel
theorem dX6_followers_16 : decode cX6_followers 16 = .ok (.getfield 18, 3) := by decide +kernel
theorem dX6_followers_19 : decode cX6_followers 19 = .ok (.iload_n 2, 1) := by decide +kernel
theorem dX6_followers_20 : decode cX6_followers 20 = .ok (.iaload, 1) := by decide +kernel
theorem dX6_followers_21 : decode cX6_followers 21 = .ok (.invokevirtual 110, 3) := by decide +kernel
theorem dX6_followers_24 : decode cX6_followers 24 = .ok (.iconst 1, 1) := by decide +kernel
theorem dX6_followers_25 : decode cX6_followers 25 = .ok (.iadd, 1) := by decide +kernel
theorem dX6_followers_26 : decode cX6_followers 26 = .ok (.ishl, 1) := by decide +kernel
theorem dX6_followers_27 : decode cX6_followers 27 = .ok (.ior, 1) := by decide +kernel
theorem dX6_followers_28 : decode cX6_followers 28 = .ok (.istore_n 1, 1) := by decide +kernel
theorem dX6_followers_29 : decode cX6_followers 29 = .ok (.iinc 2 1, 3) := by decide +kernel
theorem dX6_followers_32 : decode cX6_followers 32 = .ok (.goto (-28), 3) := by decide +kernel
theorem dX6_followers_35 : decode cX6_followers 35 = .ok (.iload_n 1, 1) := by decide +kernel
theorem dX6_followers_36 : decode cX6_followers 36 = .ok (.invokestatic 86, 3) := by decide +kernel
theorem dX6_followers_39 : decode cX6_followers 39 = .ok (.ireturn, 1) := by decide +kernel
noncomputable def f_X6_followers_L4 (M : ZMem) (s : (Int32 × Int32)) : Option ((Int32 × Int32) ⊕ (Int32)) := if (M.1 30 3) ≤ s.2 then some (.inr s.1) else zchk (zin s.2 240) (zbind (f_X6_signBehind M (M.1 33 (zix s.2))) (fun r_21 => zbnd (s.1 ||| ((zI 1) <<< ((r_21 + (zI 1)) &&& 31))) (fun x1_28 => zbnd (s.2 + (zI 1)) (fun x2_29 => some (.inl (x1_28, x2_29))))))
set_option maxRecDepth 100000 in
set_option maxHeartbeats 4000000 in
theorem w_X6_followers_L4 {E : ZEv} {G : ZG} {K : Int32 → Prop} (M : ZMem) (h : zRu lyC E G (zRp M K) cX6_followers RX6 3 (some .int) 1) (s : (Int32 × Int32)) (hk : zOk (zloop (f_X6_followers_L4 M) s) (fun e => G M 35 [(1, .int e)] [])) : G M 4 [(0, zrf E 30), (1, .int s.1), (2, .int s.2)] [] := by
  refine zloop_walk (P := fun s => G M 4 [(0, zrf E 30), (1, .int s.1), (2, .int s.2)] []) hk (fun s hk => ?_)
  unfold f_X6_followers_L4 at hk
  refine zr_iload_n h dX6_followers_4 2 rfl rfl ?_
  refine zr_aload_n h dX6_followers_5 0 rfl rfl ?_
  refine zr_getI h zfo_X6_101 lC_30 rfl dX6_followers_6 ?_
  refine zr_icmp_ge (tgt := 35) h dX6_followers_9 (by decide) (fun c => ?_) (fun c => ?_)
  · have hk := zOk_t c hk
    have hk := zOk_some hk
    exact zr_weak h [1] rfl hk
  · have hk := zOk_f c hk
    refine zr_iload_n h dX6_followers_12 1 rfl rfl ?_
    refine zr_iconst (v := (zI 1)) h dX6_followers_13 rfl ?_
    refine zr_aload_n h dX6_followers_14 0 rfl rfl ?_
    refine zr_aload_n h dX6_followers_15 0 rfl rfl ?_
    refine zr_getR h zfo_X6_18 lC_30 rfl dX6_followers_16 ?_
    refine zr_iload_n h dX6_followers_19 2 rfl rfl ?_
    have hb := zOk_chk hk
    have hk := hb.2
    refine zr_iald h lC_33 hb.1 dX6_followers_20 ?_
    refine zr_callVp h lC_30 zcw_X6_110 (by decide) (c_X6_signBehind E M (M.1 33 (zix s.2)) _ (zOk_bind hk)) rfl rfl (Nat.le_of_ble_eq_true rfl) dX6_followers_21 (fun r_21 hk => ?_)
    refine zr_iconst (v := (zI 1)) h dX6_followers_24 rfl ?_
    refine zr_iadd h dX6_followers_25 ?_
    refine zr_ishl h dX6_followers_26 ?_
    refine zr_ior h dX6_followers_27 ?_
    refine zr_topi (fun x1_28 ex => ?_)
    have hk := zOk_bnd ex hk
    refine zr_istore_n (L' := [(0, zrf E 30), (1, .int x1_28), (2, .int s.2)]) h [1, 0, 2] dX6_followers_28 rfl (by decide) rfl ?_
    obtain ⟨x2_29, ex⟩ : ∃ y : Int32, y = s.2 + (zI 1) := ⟨_, rfl⟩
    have hk := zOk_bnd ex hk
    refine zr_iinc (v := x2_29) (L' := [(0, zrf E 30), (1, .int x1_28), (2, .int x2_29)]) h 2 [1, 2, 0] dX6_followers_29 rfl (by rw [ex]; rfl) (by decide) rfl ?_
    refine zr_goto (tgt := 4) h dX6_followers_32 (by decide) ?_
    have hk := zOk_some hk
    exact zr_weak h [0, 1, 2] rfl hk
noncomputable def f_X6_followers (M : ZMem) : Option Int32 := zbind (zloop (f_X6_followers_L4 M) ((zI 0), (zI 0))) (fun e4 => zbind (f_J6_bitCount_0f7a4 M e4) (fun r_36 => some r_36))
set_option maxRecDepth 100000 in
set_option maxHeartbeats 4000000 in
theorem c_X6_followers (E : ZEv) (M : ZMem) (K : Int32 → Prop) (hk : zOk (f_X6_followers M) K) : zCon lyC E yX6_followers cX6_followers 3 (some .int) 1 [zrf E 30] M (zRp M K) := by
  refine zcon_of (L0 := [(0, zrf E 30)]) (by decide) rfl (Nat.le_of_ble_eq_true rfl) (fun G h => ?_)
  have h : zRu lyC E G (zRp M K) cX6_followers RX6 3 (some .int) 1 := h
  unfold f_X6_followers at hk
  refine zr_iconst (v := (zI 0)) h dX6_followers_0 rfl ?_
  refine zr_istore_n (L' := [(0, zrf E 30), (1, .int (zI 0))]) h [1, 0] dX6_followers_1 rfl (by decide) rfl ?_
  refine zr_iconst (v := (zI 0)) h dX6_followers_2 rfl ?_
  refine zr_istore_n (L' := [(0, zrf E 30), (1, .int (zI 0)), (2, .int (zI 0))]) h [1, 2, 0] dX6_followers_3 rfl (by decide) rfl ?_
  refine w_X6_followers_L4 M h ((zI 0), (zI 0)) (zOk_mono (zOk_bind hk) (fun e4 hk => ?_))
  refine zr_iload_n h dX6_followers_35 0 rfl rfl ?_
  refine zr_callSp h zcw_X6_86 (by decide) (c_J6_bitCount_0f7a4 E M e4 _ (zOk_bind hk)) rfl rfl (Nat.le_of_ble_eq_true rfl) dX6_followers_36 (fun r_36 hk => ?_)
  have hk := zOk_some hk
  exact zr_iret h dX6_followers_39 ⟨rfl, _, rfl, hk⟩
theorem dX6_growPiece_0 : decode cX6_growPiece 0 = .ok (.iconst 0, 1) := by decide +kernel
theorem dX6_growPiece_1 : decode cX6_growPiece 1 = .ok (.istore_n 2, 1) := by decide +kernel
theorem dX6_growPiece_2 : decode cX6_growPiece 2 = .ok (.iconst 0, 1) := by decide +kernel
theorem dX6_growPiece_3 : decode cX6_growPiece 3 = .ok (.istore_n 3, 1) := by decide +kernel
theorem dX6_growPiece_4 : decode cX6_growPiece 4 = .ok (.iload_n 3, 1) := by decide +kernel
theorem dX6_growPiece_5 : decode cX6_growPiece 5 = .ok (.aload_n 0, 1) := by decide +kernel
theorem dX6_growPiece_6 : decode cX6_growPiece 6 = .ok (.getfield 101, 3) := by decide +kernel
theorem dX6_growPiece_9 : decode cX6_growPiece 9 = .ok (.if_icmp .ge 38, 3) := by decide +kernel
theorem dX6_growPiece_12 : decode cX6_growPiece 12 = .ok (.aload_n 0, 1) := by decide +kernel
theorem dX6_growPiece_13 : decode cX6_growPiece 13 = .ok (.aload_n 0, 1) := by decide +kernel
theorem dX6_growPiece_14 : decode cX6_growPiece 14 = .ok (.getfield 18, 3) := by decide +kernel
theorem dX6_growPiece_17 : decode cX6_growPiece 17 = .ok (.iload_n 3, 1) := by decide +kernel
theorem dX6_growPiece_18 : decode cX6_growPiece 18 = .ok (.iaload, 1) := by decide +kernel
theorem dX6_growPiece_19 : decode cX6_growPiece 19 = .ok (.invokevirtual 110, 3) := by decide +kernel
theorem dX6_growPiece_22 : decode cX6_growPiece 22 = .ok (.iload_n 1, 1) := by decide +kernel
theorem dX6_growPiece_23 : decode cX6_growPiece 23 = .ok (.if_icmp .ne 18, 3) := by decide +kernel
theorem dX6_growPiece_26 : decode cX6_growPiece 26 = .ok (.aload_n 0, 1) := by decide +kernel
theorem dX6_growPiece_27 : decode cX6_growPiece 27 = .ok (.getfield 18, 3) := by decide +kernel
theorem dX6_growPiece_30 : decode cX6_growPiece 30 = .ok (.iload_n 2, 1) := by decide +kernel
theorem dX6_growPiece_31 : decode cX6_growPiece 31 = .ok (.aload_n 0, 1) := by decide +kernel
theorem dX6_growPiece_32 : decode cX6_growPiece 32 = .ok (.getfield 18, 3) := by decide +kernel
theorem dX6_growPiece_35 : decode cX6_growPiece 35 = .ok (.iload_n 3, 1) := by decide +kernel
theorem dX6_growPiece_36 : decode cX6_growPiece 36 = .ok (.iaload, 1) := by decide +kernel
theorem dX6_growPiece_37 : decode cX6_growPiece 37 = .ok (.iastore, 1) := by decide +kernel
theorem dX6_growPiece_38 : decode cX6_growPiece 38 = .ok (.iinc 2 1, 3) := by decide +kernel
theorem dX6_growPiece_41 : decode cX6_growPiece 41 = .ok (.iinc 3 1, 3) := by decide +kernel
theorem dX6_growPiece_44 : decode cX6_growPiece 44 = .ok (.goto (-40), 3) := by decide +kernel
theorem dX6_growPiece_47 : decode cX6_growPiece 47 = .ok (.aload_n 0, 1) := by decide +kernel
theorem dX6_growPiece_48 : decode cX6_growPiece 48 = .ok (.iload_n 2, 1) := by decide +kernel
theorem dX6_growPiece_49 : decode cX6_growPiece 49 = .ok (.putfield 101, 3) := by decide +kernel
theorem dX6_growPiece_52 : decode cX6_growPiece 52 = .ok (.aload_n 0, 1) := by decide +kernel
theorem dX6_growPiece_53 : decode cX6_growPiece 53 = .ok (.dup, 1) := by decide +kernel
theorem dX6_growPiece_54 : decode cX6_growPiece 54 = .ok (.getfield 107, 3) := by decide +kernel
theorem dX6_growPiece_57 : decode cX6_growPiece 57 = .ok (.iconst 1, 1) := by decide +kernel
theorem dX6_growPiece_58 : decode cX6_growPiece 58 = .ok (.iadd, 1) := by decide +kernel
theorem dX6_growPiece_59 : decode cX6_growPiece 59 = .ok (.putfield 107, 3) := by decide +kernel
theorem dX6_growPiece_62 : decode cX6_growPiece 62 = .ok (.return_, 1) := by decide +kernel
noncomputable def f_X6_growPiece_L4 (x1 : Int32) (s : (ZMem × Int32 × Int32)) : Option ((ZMem × Int32 × Int32) ⊕ (ZMem × Int32)) := if (s.1.1 30 3) ≤ s.2.2 then some (.inr (s.1, s.2.1)) else zchk (zin s.2.2 240) (zbind (f_X6_signBehind s.1 (s.1.1 33 (zix s.2.2))) (fun r_19 => if r_19 = x1 then zchk (zin s.2.2 240) (zchk (zin s.2.1 240) (zbnd (zstI s.1 33 (zix s.2.1) (s.1.1 33 (zix s.2.2))) (fun M_37 => zbnd (s.2.1 + (zI 1)) (fun x2_38 => zbnd (s.2.2 + (zI 1)) (fun x3_41 => some (.inl (M_37, x2_38, x3_41))))))) else zbnd (s.2.2 + (zI 1)) (fun x3_41 => some (.inl (s.1, s.2.1, x3_41)))))
set_option maxRecDepth 100000 in
set_option maxHeartbeats 4000000 in
theorem w_X6_growPiece_L4 {E : ZEv} {G : ZG} {K : ZMem → Prop} (h : zRu lyC E G (zRv K) cX6_growPiece RX6 4 none 1) (x1 : Int32) (s : (ZMem × Int32 × Int32)) (hk : zOk (zloop (f_X6_growPiece_L4 x1) s) (fun e => G e.1 47 [(0, zrf E 30), (2, .int e.2)] [])) : G s.1 4 [(0, zrf E 30), (1, .int x1), (2, .int s.2.1), (3, .int s.2.2)] [] := by
  refine zloop_walk (P := fun s => G s.1 4 [(0, zrf E 30), (1, .int x1), (2, .int s.2.1), (3, .int s.2.2)] []) hk (fun s hk => ?_)
  unfold f_X6_growPiece_L4 at hk
  refine zr_iload_n h dX6_growPiece_4 3 rfl rfl ?_
  refine zr_aload_n h dX6_growPiece_5 0 rfl rfl ?_
  refine zr_getI h zfo_X6_101 lC_30 rfl dX6_growPiece_6 ?_
  refine zr_icmp_ge (tgt := 47) h dX6_growPiece_9 (by decide) (fun c => ?_) (fun c => ?_)
  · have hk := zOk_t c hk
    have hk := zOk_some hk
    exact zr_weak h [0, 2] rfl hk
  · have hk := zOk_f c hk
    refine zr_aload_n h dX6_growPiece_12 0 rfl rfl ?_
    refine zr_aload_n h dX6_growPiece_13 0 rfl rfl ?_
    refine zr_getR h zfo_X6_18 lC_30 rfl dX6_growPiece_14 ?_
    refine zr_iload_n h dX6_growPiece_17 3 rfl rfl ?_
    have hb := zOk_chk hk
    have hk := hb.2
    refine zr_iald h lC_33 hb.1 dX6_growPiece_18 ?_
    refine zr_callVp h lC_30 zcw_X6_110 (by decide) (c_X6_signBehind E s.1 (s.1.1 33 (zix s.2.2)) _ (zOk_bind hk)) rfl rfl (Nat.le_of_ble_eq_true rfl) dX6_growPiece_19 (fun r_19 hk => ?_)
    refine zr_iload_n h dX6_growPiece_22 1 rfl rfl ?_
    refine zr_icmp_ne (tgt := 41) h dX6_growPiece_23 (by decide) (fun c => ?_) (fun c => ?_)
    · have hk := zOk_t c hk
      refine zr_aload_n h dX6_growPiece_26 0 rfl rfl ?_
      refine zr_getR h zfo_X6_18 lC_30 rfl dX6_growPiece_27 ?_
      refine zr_iload_n h dX6_growPiece_30 2 rfl rfl ?_
      refine zr_aload_n h dX6_growPiece_31 0 rfl rfl ?_
      refine zr_getR h zfo_X6_18 lC_30 rfl dX6_growPiece_32 ?_
      refine zr_iload_n h dX6_growPiece_35 3 rfl rfl ?_
      have hb := zOk_chk hk
      have hk := hb.2
      refine zr_iald h lC_33 hb.1 dX6_growPiece_36 ?_
      have hb := zOk_chk hk
      have hk := hb.2
      refine zr_iast h lC_33 hb.1 dX6_growPiece_37 ?_
      refine zr_mem (fun M_37 eM => ?_)
      have hk := zOk_bnd eM hk
      obtain ⟨x2_38, ex⟩ : ∃ y : Int32, y = s.2.1 + (zI 1) := ⟨_, rfl⟩
      have hk := zOk_bnd ex hk
      refine zr_iinc (v := x2_38) (L' := [(0, zrf E 30), (1, .int x1), (2, .int x2_38), (3, .int s.2.2)]) h 2 [1, 2, 0, 3] dX6_growPiece_38 rfl (by rw [ex]; rfl) (by decide) rfl ?_
      obtain ⟨x3_41, ex⟩ : ∃ y : Int32, y = s.2.2 + (zI 1) := ⟨_, rfl⟩
      have hk := zOk_bnd ex hk
      refine zr_iinc (v := x3_41) (L' := [(0, zrf E 30), (1, .int x1), (2, .int x2_38), (3, .int x3_41)]) h 3 [1, 2, 3, 0] dX6_growPiece_41 rfl (by rw [ex]; rfl) (by decide) rfl ?_
      refine zr_goto (tgt := 4) h dX6_growPiece_44 (by decide) ?_
      have hk := zOk_some hk
      exact zr_weak h [0, 1, 2, 3] rfl hk
    · have hk := zOk_f c hk
      obtain ⟨x3_41, ex⟩ : ∃ y : Int32, y = s.2.2 + (zI 1) := ⟨_, rfl⟩
      have hk := zOk_bnd ex hk
      refine zr_iinc (v := x3_41) (L' := [(0, zrf E 30), (1, .int x1), (2, .int s.2.1), (3, .int x3_41)]) h 3 [1, 2, 3, 0] dX6_growPiece_41 rfl (by rw [ex]; rfl) (by decide) rfl ?_
      refine zr_goto (tgt := 4) h dX6_growPiece_44 (by decide) ?_
      have hk := zOk_some hk
      exact zr_weak h [0, 1, 2, 3] rfl hk
noncomputable def f_X6_growPiece (M : ZMem) (x1 : Int32) : Option ZMem := zbind (zloop (f_X6_growPiece_L4 x1) (M, (zI 0), (zI 0))) (fun e4 => zbnd (zstI e4.1 30 3 e4.2) (fun M_49 => zbnd (zstI M_49 30 4 ((M_49.1 30 4) + (zI 1))) (fun M_59 => some M_59)))
set_option maxRecDepth 100000 in
set_option maxHeartbeats 4000000 in
theorem c_X6_growPiece (E : ZEv) (M : ZMem) (x1 : Int32) (K : ZMem → Prop) (hk : zOk (f_X6_growPiece M x1) K) : zCon lyC E yX6_growPiece cX6_growPiece 4 none 1 [zrf E 30, .int x1] M (zRv K) := by
  refine zcon_of (L0 := [(0, zrf E 30), (1, .int x1)]) (by decide) rfl (Nat.le_of_ble_eq_true rfl) (fun G h => ?_)
  have h : zRu lyC E G (zRv K) cX6_growPiece RX6 4 none 1 := h
  unfold f_X6_growPiece at hk
  refine zr_iconst (v := (zI 0)) h dX6_growPiece_0 rfl ?_
  refine zr_istore_n (L' := [(0, zrf E 30), (1, .int x1), (2, .int (zI 0))]) h [1, 2, 0] dX6_growPiece_1 rfl (by decide) rfl ?_
  refine zr_iconst (v := (zI 0)) h dX6_growPiece_2 rfl ?_
  refine zr_istore_n (L' := [(0, zrf E 30), (1, .int x1), (2, .int (zI 0)), (3, .int (zI 0))]) h [1, 2, 3, 0] dX6_growPiece_3 rfl (by decide) rfl ?_
  refine w_X6_growPiece_L4 h x1 (M, (zI 0), (zI 0)) (zOk_mono (zOk_bind hk) (fun e4 hk => ?_))
  refine zr_aload_n h dX6_growPiece_47 0 rfl rfl ?_
  refine zr_iload_n h dX6_growPiece_48 1 rfl rfl ?_
  refine zr_putI h zfp_X6_101 lC_30 rfl dX6_growPiece_49 ?_
  refine zr_mem (fun M_49 eM => ?_)
  have hk := zOk_bnd eM hk
  refine zr_aload_n h dX6_growPiece_52 0 rfl rfl ?_
  refine zr_dup h dX6_growPiece_53 rfl ?_
  refine zr_getI h zfo_X6_107 lC_30 rfl dX6_growPiece_54 ?_
  refine zr_iconst (v := (zI 1)) h dX6_growPiece_57 rfl ?_
  refine zr_iadd h dX6_growPiece_58 ?_
  refine zr_putI h zfp_X6_107 lC_30 rfl dX6_growPiece_59 ?_
  refine zr_mem (fun M_59 eM => ?_)
  have hk := zOk_bnd eM hk
  have hk := zOk_some hk
  exact zr_vret h dX6_growPiece_62 ⟨rfl, hk⟩
theorem dX6_wordLength_0 : decode cX6_wordLength 0 = .ok (.aload_n 0, 1) := by decide +kernel
theorem dX6_wordLength_1 : decode cX6_wordLength 1 = .ok (.aload_n 0, 1) := by decide +kernel
theorem dX6_wordLength_2 : decode cX6_wordLength 2 = .ok (.iload_n 1, 1) := by decide +kernel
theorem dX6_wordLength_3 : decode cX6_wordLength 3 = .ok (.iload_n 2, 1) := by decide +kernel
theorem dX6_wordLength_4 : decode cX6_wordLength 4 = .ok (.invokevirtual 113, 3) := by decide +kernel
theorem dX6_wordLength_7 : decode cX6_wordLength 7 = .ok (.invokevirtual 97, 3) := by decide +kernel
theorem dX6_wordLength_10 : decode cX6_wordLength 10 = .ok (.aload_n 0, 1) := by decide +kernel
theorem dX6_wordLength_11 : decode cX6_wordLength 11 = .ok (.invokevirtual 116, 3) := by decide +kernel
theorem dX6_wordLength_14 : decode cX6_wordLength 14 = .ok (.istore 4, 2) := by decide +kernel
theorem dX6_wordLength_16 : decode cX6_wordLength 16 = .ok (.bipush 7, 2) := by decide +kernel
theorem dX6_wordLength_18 : decode cX6_wordLength 18 = .ok (.aload_n 0, 1) := by decide +kernel
theorem dX6_wordLength_19 : decode cX6_wordLength 19 = .ok (.iload_n 1, 1) := by decide +kernel
theorem dX6_wordLength_20 : decode cX6_wordLength 20 = .ok (.invokevirtual 119, 3) := by decide +kernel
theorem dX6_wordLength_23 : decode cX6_wordLength 23 = .ok (.iload_n 2, 1) := by decide +kernel
theorem dX6_wordLength_24 : decode cX6_wordLength 24 = .ok (.isub, 1) := by decide +kernel
theorem dX6_wordLength_25 : decode cX6_wordLength 25 = .ok (.invokestatic 63, 3) := by decide +kernel
theorem dX6_wordLength_28 : decode cX6_wordLength 28 = .ok (.istore 5, 2) := by decide +kernel
theorem dX6_wordLength_30 : decode cX6_wordLength 30 = .ok (.iconst 2, 1) := by decide +kernel
theorem dX6_wordLength_31 : decode cX6_wordLength 31 = .ok (.istore 6, 2) := by decide +kernel
theorem dX6_wordLength_33 : decode cX6_wordLength 33 = .ok (.iload 6, 2) := by decide +kernel
theorem dX6_wordLength_35 : decode cX6_wordLength 35 = .ok (.iload 5, 2) := by decide +kernel
theorem dX6_wordLength_37 : decode cX6_wordLength 37 = .ok (.if_icmp .gt 50, 3) := by decide +kernel
theorem dX6_wordLength_40 : decode cX6_wordLength 40 = .ok (.aload_n 0, 1) := by decide +kernel
theorem dX6_wordLength_41 : decode cX6_wordLength 41 = .ok (.aload_n 0, 1) := by decide +kernel
theorem dX6_wordLength_42 : decode cX6_wordLength 42 = .ok (.iload_n 1, 1) := by decide +kernel
theorem dX6_wordLength_43 : decode cX6_wordLength 43 = .ok (.iload_n 2, 1) := by decide +kernel
theorem dX6_wordLength_44 : decode cX6_wordLength 44 = .ok (.iload 6, 2) := by decide +kernel
theorem dX6_wordLength_46 : decode cX6_wordLength 46 = .ok (.iadd, 1) := by decide +kernel
theorem dX6_wordLength_47 : decode cX6_wordLength 47 = .ok (.iconst 1, 1) := by decide +kernel
theorem dX6_wordLength_48 : decode cX6_wordLength 48 = .ok (.isub, 1) := by decide +kernel
theorem dX6_wordLength_49 : decode cX6_wordLength 49 = .ok (.invokevirtual 113, 3) := by decide +kernel
theorem dX6_wordLength_52 : decode cX6_wordLength 52 = .ok (.invokevirtual 104, 3) := by decide +kernel
theorem dX6_wordLength_55 : decode cX6_wordLength 55 = .ok (.aload_n 0, 1) := by decide +kernel
theorem dX6_wordLength_56 : decode cX6_wordLength 56 = .ok (.invokevirtual 116, 3) := by decide +kernel
theorem dX6_wordLength_59 : decode cX6_wordLength 59 = .ok (.istore 7, 2) := by decide +kernel
theorem dX6_wordLength_61 : decode cX6_wordLength 61 = .ok (.iload 7, 2) := by decide +kernel
theorem dX6_wordLength_63 : decode cX6_wordLength 63 = .ok (.iload 4, 2) := by decide +kernel
theorem dX6_wordLength_65 : decode cX6_wordLength 65 = .ok (.if_icmp .le 12, 3) := by decide +kernel
theorem dX6_wordLength_68 : decode cX6_wordLength 68 = .ok (.iload 7, 2) := by decide +kernel
theorem dX6_wordLength_70 : decode cX6_wordLength 70 = .ok (.iload_n 3, 1) := by decide +kernel
theorem dX6_wordLength_71 : decode cX6_wordLength 71 = .ok (.if_icmp .lt 6, 3) := by decide +kernel
theorem dX6_wordLength_74 : decode cX6_wordLength 74 = .ok (.iload 6, 2) := by decide +kernel
theorem dX6_wordLength_76 : decode cX6_wordLength 76 = .ok (.ireturn, 1) := by decide +kernel
theorem dX6_wordLength_77 : decode cX6_wordLength 77 = .ok (.iload 7, 2) := by decide +kernel
theorem dX6_wordLength_79 : decode cX6_wordLength 79 = .ok (.istore 4, 2) := by decide +kernel
theorem dX6_wordLength_81 : decode cX6_wordLength 81 = .ok (.iinc 6 1, 3) := by decide +kernel
theorem dX6_wordLength_84 : decode cX6_wordLength 84 = .ok (.goto (-51), 3) := by decide +kernel
theorem dX6_wordLength_87 : decode cX6_wordLength 87 = .ok (.iload 5, 2) := by decide +kernel
theorem dX6_wordLength_89 : decode cX6_wordLength 89 = .ok (.ireturn, 1) := by decide +kernel
noncomputable def f_X6_wordLength_L33 (x1 : Int32) (x2 : Int32) (x3 : Int32) (x5 : Int32) (s : (ZMem × Int32 × Int32)) : Option ((ZMem × Int32 × Int32) ⊕ ((ZMem) ⊕ (ZMem × Int32))) := if x5 < s.2.2 then some (.inr (.inl s.1)) else zbind (f_X6_signAt s.1 x1 ((x2 + s.2.2) - (zI 1))) (fun r_49 => zbind (f_X6_growPiece s.1 r_49) (fun M_52 => zbind (f_X6_followers M_52) (fun r_56 => if r_56 ≤ s.2.1 then zbnd (s.2.2 + (zI 1)) (fun x6_81 => some (.inl (M_52, r_56, x6_81))) else if r_56 < x3 then zbnd (s.2.2 + (zI 1)) (fun x6_81 => some (.inl (M_52, r_56, x6_81))) else some (.inr (.inr (M_52, s.2.2))))))
set_option maxRecDepth 100000 in
set_option maxHeartbeats 4000000 in
theorem w_X6_wordLength_L33 {E : ZEv} {G : ZG} {K : (ZMem × Int32) → Prop} (h : zRu lyC E G (zRm K) cX6_wordLength RX6 8 (some .int) 2) (x1 : Int32) (x2 : Int32) (x3 : Int32) (x5 : Int32) (s : (ZMem × Int32 × Int32)) (hk : zOk (zloop (f_X6_wordLength_L33 x1 x2 x3 x5) s) (fun e => zsel e (fun e0 => G e0 87 [(5, .int x5)] []) (fun f0 => K f0))) : G s.1 33 [(0, zrf E 30), (1, .int x1), (2, .int x2), (3, .int x3), (4, .int s.2.1), (5, .int x5), (6, .int s.2.2)] [] := by
  refine zloop_walk (P := fun s => G s.1 33 [(0, zrf E 30), (1, .int x1), (2, .int x2), (3, .int x3), (4, .int s.2.1), (5, .int x5), (6, .int s.2.2)] []) hk (fun s hk => ?_)
  unfold f_X6_wordLength_L33 at hk
  refine zr_iload h dX6_wordLength_33 6 rfl ?_
  refine zr_iload h dX6_wordLength_35 5 rfl ?_
  refine zr_icmp_gt (tgt := 87) h dX6_wordLength_37 (by decide) (fun c => ?_) (fun c => ?_)
  · have hk := zOk_t c hk
    have hk := zOk_some hk
    exact zr_weak h [5] rfl hk
  · have hk := zOk_f c hk
    refine zr_aload_n h dX6_wordLength_40 0 rfl rfl ?_
    refine zr_aload_n h dX6_wordLength_41 0 rfl rfl ?_
    refine zr_iload_n h dX6_wordLength_42 1 rfl rfl ?_
    refine zr_iload_n h dX6_wordLength_43 2 rfl rfl ?_
    refine zr_iload h dX6_wordLength_44 6 rfl ?_
    refine zr_iadd h dX6_wordLength_46 ?_
    refine zr_iconst (v := (zI 1)) h dX6_wordLength_47 rfl ?_
    refine zr_isub h dX6_wordLength_48 ?_
    refine zr_callVp h lC_30 zcw_X6_113 (by decide) (c_X6_signAt E s.1 x1 ((x2 + s.2.2) - (zI 1)) _ (zOk_bind hk)) rfl rfl (Nat.le_of_ble_eq_true rfl) dX6_wordLength_49 (fun r_49 hk => ?_)
    refine zr_callVv h lC_30 zcw_X6_104 (by decide) (c_X6_growPiece E s.1 r_49 _ (zOk_bind hk)) rfl rfl (Nat.le_of_ble_eq_true rfl) dX6_wordLength_52 (fun M_52 hk => ?_)
    refine zr_aload_n h dX6_wordLength_55 0 rfl rfl ?_
    refine zr_callVp h lC_30 zcw_X6_116 (by decide) (c_X6_followers E M_52 _ (zOk_bind hk)) rfl rfl (Nat.le_of_ble_eq_true rfl) dX6_wordLength_56 (fun r_56 hk => ?_)
    refine zr_istore (L' := [(0, zrf E 30), (1, .int x1), (2, .int x2), (3, .int x3), (4, .int s.2.1), (5, .int x5), (6, .int s.2.2), (7, .int r_56)]) h [1, 2, 3, 4, 5, 6, 7, 0] dX6_wordLength_59 (by decide) rfl ?_
    refine zr_iload h dX6_wordLength_61 7 rfl ?_
    refine zr_iload h dX6_wordLength_63 4 rfl ?_
    refine zr_icmp_le (tgt := 77) h dX6_wordLength_65 (by decide) (fun c => ?_) (fun c => ?_)
    · have hk := zOk_t c hk
      refine zr_iload h dX6_wordLength_77 7 rfl ?_
      refine zr_istore (L' := [(0, zrf E 30), (1, .int x1), (2, .int x2), (3, .int x3), (4, .int r_56), (5, .int x5), (6, .int s.2.2)]) h [1, 2, 3, 4, 0, 5, 6] dX6_wordLength_79 (by decide) rfl ?_
      obtain ⟨x6_81, ex⟩ : ∃ y : Int32, y = s.2.2 + (zI 1) := ⟨_, rfl⟩
      have hk := zOk_bnd ex hk
      refine zr_iinc (v := x6_81) (L' := [(0, zrf E 30), (1, .int x1), (2, .int x2), (3, .int x3), (4, .int r_56), (5, .int x5), (6, .int x6_81)]) h 6 [1, 2, 3, 4, 5, 6, 0] dX6_wordLength_81 rfl (by rw [ex]; rfl) (by decide) rfl ?_
      refine zr_goto (tgt := 33) h dX6_wordLength_84 (by decide) ?_
      have hk := zOk_some hk
      exact zr_weak h [0, 1, 2, 3, 4, 5, 6] rfl hk
    · have hk := zOk_f c hk
      refine zr_iload h dX6_wordLength_68 7 rfl ?_
      refine zr_iload_n h dX6_wordLength_70 3 rfl rfl ?_
      refine zr_icmp_lt (tgt := 77) h dX6_wordLength_71 (by decide) (fun c => ?_) (fun c => ?_)
      · have hk := zOk_t c hk
        refine zr_iload h dX6_wordLength_77 7 rfl ?_
        refine zr_istore (L' := [(0, zrf E 30), (1, .int x1), (2, .int x2), (3, .int x3), (4, .int r_56), (5, .int x5), (6, .int s.2.2)]) h [1, 2, 3, 4, 0, 5, 6] dX6_wordLength_79 (by decide) rfl ?_
        obtain ⟨x6_81, ex⟩ : ∃ y : Int32, y = s.2.2 + (zI 1) := ⟨_, rfl⟩
        have hk := zOk_bnd ex hk
        refine zr_iinc (v := x6_81) (L' := [(0, zrf E 30), (1, .int x1), (2, .int x2), (3, .int x3), (4, .int r_56), (5, .int x5), (6, .int x6_81)]) h 6 [1, 2, 3, 4, 5, 6, 0] dX6_wordLength_81 rfl (by rw [ex]; rfl) (by decide) rfl ?_
        refine zr_goto (tgt := 33) h dX6_wordLength_84 (by decide) ?_
        have hk := zOk_some hk
        exact zr_weak h [0, 1, 2, 3, 4, 5, 6] rfl hk
      · have hk := zOk_f c hk
        refine zr_iload h dX6_wordLength_74 6 rfl ?_
        have hk := zOk_some hk
        exact zr_iret h dX6_wordLength_76 ⟨_, rfl, hk⟩
noncomputable def f_X6_wordLength (M : ZMem) (x1 : Int32) (x2 : Int32) (x3 : Int32) : Option (ZMem × Int32) := zbind (f_X6_signAt M x1 x2) (fun r_4 => zbind (f_X6_startPiece M r_4) (fun M_7 => zbind (f_X6_followers M_7) (fun r_11 => zbind (f_X6_lengthOf M_7 x1) (fun r_20 => zbnd (if (r_20 - x2) < (zI 7) then (r_20 - x2) else (zI 7)) (fun x5_28 => zbind (zloop (f_X6_wordLength_L33 x1 x2 x3 x5_28) (M_7, r_11, (zI 2))) (fun e33 => zsel e33 (fun e33a => some (e33a, x5_28)) (fun e33b => some e33b)))))))
set_option maxRecDepth 100000 in
set_option maxHeartbeats 4000000 in
theorem c_X6_wordLength (E : ZEv) (M : ZMem) (x1 : Int32) (x2 : Int32) (x3 : Int32) (K : ZMem × Int32 → Prop) (hk : zOk (f_X6_wordLength M x1 x2 x3) K) : zCon lyC E yX6_wordLength cX6_wordLength 8 (some .int) 2 [zrf E 30, .int x1, .int x2, .int x3] M (zRm K) := by
  refine zcon_of (L0 := [(0, zrf E 30), (1, .int x1), (2, .int x2), (3, .int x3)]) (by decide) rfl (Nat.le_of_ble_eq_true rfl) (fun G h => ?_)
  have h : zRu lyC E G (zRm K) cX6_wordLength RX6 8 (some .int) 2 := h
  unfold f_X6_wordLength at hk
  refine zr_aload_n h dX6_wordLength_0 0 rfl rfl ?_
  refine zr_aload_n h dX6_wordLength_1 0 rfl rfl ?_
  refine zr_iload_n h dX6_wordLength_2 1 rfl rfl ?_
  refine zr_iload_n h dX6_wordLength_3 2 rfl rfl ?_
  refine zr_callVp h lC_30 zcw_X6_113 (by decide) (c_X6_signAt E M x1 x2 _ (zOk_bind hk)) rfl rfl (Nat.le_of_ble_eq_true rfl) dX6_wordLength_4 (fun r_4 hk => ?_)
  refine zr_callVv h lC_30 zcw_X6_97 (by decide) (c_X6_startPiece E M r_4 _ (zOk_bind hk)) rfl rfl (Nat.le_of_ble_eq_true rfl) dX6_wordLength_7 (fun M_7 hk => ?_)
  refine zr_aload_n h dX6_wordLength_10 0 rfl rfl ?_
  refine zr_callVp h lC_30 zcw_X6_116 (by decide) (c_X6_followers E M_7 _ (zOk_bind hk)) rfl rfl (Nat.le_of_ble_eq_true rfl) dX6_wordLength_11 (fun r_11 hk => ?_)
  refine zr_istore (L' := [(0, zrf E 30), (1, .int x1), (2, .int x2), (3, .int x3), (4, .int r_11)]) h [1, 2, 3, 4, 0] dX6_wordLength_14 (by decide) rfl ?_
  refine zr_bipush (v := (zI 7)) h dX6_wordLength_16 (by decide) ?_
  refine zr_aload_n h dX6_wordLength_18 0 rfl rfl ?_
  refine zr_iload_n h dX6_wordLength_19 1 rfl rfl ?_
  refine zr_callVp h lC_30 zcw_X6_119 (by decide) (c_X6_lengthOf E M_7 x1 _ (zOk_bind hk)) rfl rfl (Nat.le_of_ble_eq_true rfl) dX6_wordLength_20 (fun r_20 hk => ?_)
  refine zr_iload_n h dX6_wordLength_23 2 rfl rfl ?_
  refine zr_isub h dX6_wordLength_24 ?_
  refine zr_mmin h (zm_30 _ (List.mem_of_getElem? (i := 15) rfl)) (zm_12 _ (List.mem_of_getElem? (i := 11) rfl)) (zm_12 _ (List.mem_of_getElem? (i := 12) rfl)) (zm_12 _ (List.mem_of_getElem? (i := 13) rfl)) (Nat.le_of_ble_eq_true rfl) dX6_wordLength_25 ?_
  refine zr_topi (fun x5_28 ex => ?_)
  have hk := zOk_bnd ex hk
  refine zr_istore (L' := [(0, zrf E 30), (1, .int x1), (2, .int x2), (3, .int x3), (4, .int r_11), (5, .int x5_28)]) h [1, 2, 3, 4, 5, 0] dX6_wordLength_28 (by decide) rfl ?_
  refine zr_iconst (v := (zI 2)) h dX6_wordLength_30 rfl ?_
  refine zr_istore (L' := [(0, zrf E 30), (1, .int x1), (2, .int x2), (3, .int x3), (4, .int r_11), (5, .int x5_28), (6, .int (zI 2))]) h [1, 2, 3, 4, 5, 6, 0] dX6_wordLength_31 (by decide) rfl ?_
  refine w_X6_wordLength_L33 h x1 x2 x3 x5_28 (M_7, r_11, (zI 2)) (zOk_mono (zOk_bind hk) (fun e33 hk => ?_))
  cases e33 with
  | inl e33a =>
    have hk := zOk_selL hk
    refine zr_iload h dX6_wordLength_87 0 rfl ?_
    have hk := zOk_some hk
    exact zr_iret h dX6_wordLength_89 ⟨_, rfl, hk⟩
  | inr e33b =>
    have hk := zOk_selR hk
    have hk := zOk_some hk
    exact hk
theorem dX6_judge_0 : decode cX6_judge 0 = .ok (.aload_n 0, 1) := by decide +kernel
theorem dX6_judge_1 : decode cX6_judge 1 = .ok (.iconst 0, 1) := by decide +kernel
theorem dX6_judge_2 : decode cX6_judge 2 = .ok (.putfield 76, 3) := by decide +kernel
theorem dX6_judge_5 : decode cX6_judge 5 = .ok (.aload_n 0, 1) := by decide +kernel
theorem dX6_judge_6 : decode cX6_judge 6 = .ok (.iconst 0, 1) := by decide +kernel
theorem dX6_judge_7 : decode cX6_judge 7 = .ok (.putfield 80, 3) := by decide +kernel
theorem dX6_judge_10 : decode cX6_judge 10 = .ok (.iconst 0, 1) := by decide +kernel
theorem dX6_judge_11 : decode cX6_judge 11 = .ok (.istore_n 3, 1) := by decide +kernel
theorem dX6_judge_12 : decode cX6_judge 12 = .ok (.iconst 0, 1) := by decide +kernel
theorem dX6_judge_13 : decode cX6_judge 13 = .ok (.istore 4, 2) := by decide +kernel
theorem dX6_judge_15 : decode cX6_judge 15 = .ok (.iconst 0, 1) := by decide +kernel
theorem dX6_judge_16 : decode cX6_judge 16 = .ok (.istore 5, 2) := by decide +kernel
theorem dX6_judge_18 : decode cX6_judge 18 = .ok (.iload 5, 2) := by decide +kernel
theorem dX6_judge_20 : decode cX6_judge 20 = .ok (.aload_n 1, 1) := by decide +kernel
theorem dX6_judge_21 : decode cX6_judge 21 = .ok (.invokevirtual 31, 3) := by decide +kernel
theorem dX6_judge_24 : decode cX6_judge 24 = .ok (.if_icmp .ge 148, 3) := by decide +kernel
theorem dX6_judge_27 : decode cX6_judge 27 = .ok (.aload_n 1, 1) := by decide +kernel
theorem dX6_judge_28 : decode cX6_judge 28 = .ok (.iload 5, 2) := by decide +kernel
theorem dX6_judge_30 : decode cX6_judge 30 = .ok (.invokevirtual 37, 3) := by decide +kernel
theorem dX6_judge_33 : decode cX6_judge 33 = .ok (.istore 6, 2) := by decide +kernel
theorem dX6_judge_35 : decode cX6_judge 35 = .ok (.iload 6, 2) := by decide +kernel
theorem dX6_judge_37 : decode cX6_judge 37 = .ok (.iconst 2, 1) := by decide +kernel
theorem dX6_judge_38 : decode cX6_judge 38 = .ok (.if_icmp .ge 7, 3) := by decide +kernel
theorem dX6_judge_41 : decode cX6_judge 41 = .ok (.iconst 0, 1) := by decide +kernel
theorem dX6_judge_42 : decode cX6_judge 42 = .ok (.goto 17, 3) := by decide +kernel
theorem dX6_judge_45 : decode cX6_judge 45 = .ok (.aload_n 1, 1) := by decide +kernel
theorem dX6_judge_46 : decode cX6_judge 46 = .ok (.aload_n 1, 1) := by decide +kernel
theorem dX6_judge_47 : decode cX6_judge 47 = .ok (.iload 5, 2) := by decide +kernel
theorem dX6_judge_49 : decode cX6_judge 49 = .ok (.iload 6, 2) := by decide +kernel
theorem dX6_judge_51 : decode cX6_judge 51 = .ok (.iconst 1, 1) := by decide +kernel
theorem dX6_judge_52 : decode cX6_judge 52 = .ok (.isub, 1) := by decide +kernel
theorem dX6_judge_53 : decode cX6_judge 53 = .ok (.invokevirtual 41, 3) := by decide +kernel
theorem dX6_judge_56 : decode cX6_judge 56 = .ok (.invokevirtual 83, 3) := by decide +kernel
theorem dX6_judge_59 : decode cX6_judge 59 = .ok (.istore 7, 2) := by decide +kernel
theorem dX6_judge_61 : decode cX6_judge 61 = .ok (.aload_n 0, 1) := by decide +kernel
theorem dX6_judge_62 : decode cX6_judge 62 = .ok (.dup, 1) := by decide +kernel
theorem dX6_judge_63 : decode cX6_judge 63 = .ok (.getfield 76, 3) := by decide +kernel
theorem dX6_judge_66 : decode cX6_judge 66 = .ok (.iload 7, 2) := by decide +kernel
theorem dX6_judge_68 : decode cX6_judge 68 = .ok (.ifCond .le 7, 3) := by decide +kernel
theorem dX6_judge_71 : decode cX6_judge 71 = .ok (.iconst 1, 1) := by decide +kernel
theorem dX6_judge_72 : decode cX6_judge 72 = .ok (.goto 4, 3) := by decide +kernel
theorem dX6_judge_75 : decode cX6_judge 75 = .ok (.iconst 0, 1) := by decide +kernel
theorem dX6_judge_76 : decode cX6_judge 76 = .ok (.iadd, 1) := by decide +kernel
theorem dX6_judge_77 : decode cX6_judge 77 = .ok (.putfield 76, 3) := by decide +kernel
theorem dX6_judge_80 : decode cX6_judge 80 = .ok (.aload_n 0, 1) := by decide +kernel
theorem dX6_judge_81 : decode cX6_judge 81 = .ok (.dup, 1) := by decide +kernel
theorem dX6_judge_82 : decode cX6_judge 82 = .ok (.getfield 80, 3) := by decide +kernel
theorem dX6_judge_85 : decode cX6_judge 85 = .ok (.iload 7, 2) := by decide +kernel
theorem dX6_judge_87 : decode cX6_judge 87 = .ok (.ifCond .ge 7, 3) := by decide +kernel
theorem dX6_judge_90 : decode cX6_judge 90 = .ok (.iconst 1, 1) := by decide +kernel
theorem dX6_judge_91 : decode cX6_judge 91 = .ok (.goto 4, 3) := by decide +kernel
theorem dX6_judge_94 : decode cX6_judge 94 = .ok (.iconst 0, 1) := by decide +kernel
theorem dX6_judge_95 : decode cX6_judge 95 = .ok (.iadd, 1) := by decide +kernel
theorem dX6_judge_96 : decode cX6_judge 96 = .ok (.putfield 80, 3) := by decide +kernel
theorem dX6_judge_99 : decode cX6_judge 99 = .ok (.iconst 0, 1) := by decide +kernel
theorem dX6_judge_100 : decode cX6_judge 100 = .ok (.istore 8, 2) := by decide +kernel
theorem dX6_judge_102 : decode cX6_judge 102 = .ok (.iload 8, 2) := by decide +kernel
theorem dX6_judge_104 : decode cX6_judge 104 = .ok (.iload 6, 2) := by decide +kernel
theorem dX6_judge_106 : decode cX6_judge 106 = .ok (.if_icmp .ge 60, 3) := by decide +kernel
theorem dX6_judge_109 : decode cX6_judge 109 = .ok (.aload_n 1, 1) := by decide +kernel
theorem dX6_judge_110 : decode cX6_judge 110 = .ok (.iload 5, 2) := by decide +kernel
theorem dX6_judge_112 : decode cX6_judge 112 = .ok (.iload 8, 2) := by decide +kernel
theorem dX6_judge_114 : decode cX6_judge 114 = .ok (.invokevirtual 41, 3) := by decide +kernel
theorem dX6_judge_117 : decode cX6_judge 117 = .ok (.istore 9, 2) := by decide +kernel
theorem dX6_judge_119 : decode cX6_judge 119 = .ok (.iload_n 3, 1) := by decide +kernel
theorem dX6_judge_120 : decode cX6_judge 120 = .ok (.iconst 1, 1) := by decide +kernel
theorem dX6_judge_121 : decode cX6_judge 121 = .ok (.aload_n 2, 1) := by decide +kernel
theorem dX6_judge_122 : decode cX6_judge 122 = .ok (.aload_n 1, 1) := by decide +kernel
theorem dX6_judge_123 : decode cX6_judge 123 = .ok (.iload 9, 2) := by decide +kernel
theorem dX6_judge_125 : decode cX6_judge 125 = .ok (.aload_n 1, 1) := by decide +kernel
theorem dX6_judge_126 : decode cX6_judge 126 = .ok (.iload 9, 2) := by decide +kernel
theorem dX6_judge_128 : decode cX6_judge 128 = .ok (.invokevirtual 60, 3) := by decide +kernel
theorem dX6_judge_131 : decode cX6_judge 131 = .ok (.iconst 1, 1) := by decide +kernel
theorem dX6_judge_132 : decode cX6_judge 132 = .ok (.isub, 1) := by decide +kernel
theorem dX6_judge_133 : decode cX6_judge 133 = .ok (.invokevirtual 68, 3) := by decide +kernel
theorem dX6_judge_136 : decode cX6_judge 136 = .ok (.invokevirtual 71, 3) := by decide +kernel
theorem dX6_judge_139 : decode cX6_judge 139 = .ok (.ishl, 1) := by decide +kernel
theorem dX6_judge_140 : decode cX6_judge 140 = .ok (.ior, 1) := by decide +kernel
theorem dX6_judge_141 : decode cX6_judge 141 = .ok (.istore_n 3, 1) := by decide +kernel
theorem dX6_judge_142 : decode cX6_judge 142 = .ok (.iload 4, 2) := by decide +kernel
theorem dX6_judge_144 : decode cX6_judge 144 = .ok (.iconst 1, 1) := by decide +kernel
theorem dX6_judge_145 : decode cX6_judge 145 = .ok (.aload_n 2, 1) := by decide +kernel
theorem dX6_judge_146 : decode cX6_judge 146 = .ok (.aload_n 1, 1) := by decide +kernel
theorem dX6_judge_147 : decode cX6_judge 147 = .ok (.iload 9, 2) := by decide +kernel
theorem dX6_judge_149 : decode cX6_judge 149 = .ok (.iconst 0, 1) := by decide +kernel
theorem dX6_judge_150 : decode cX6_judge 150 = .ok (.invokevirtual 68, 3) := by decide +kernel
theorem dX6_judge_153 : decode cX6_judge 153 = .ok (.invokevirtual 71, 3) := by decide +kernel
theorem dX6_judge_156 : decode cX6_judge 156 = .ok (.ishl, 1) := by decide +kernel
theorem dX6_judge_157 : decode cX6_judge 157 = .ok (.ior, 1) := by decide +kernel
theorem dX6_judge_158 : decode cX6_judge 158 = .ok (.istore 4, 2) := by decide +kernel
theorem dX6_judge_160 : decode cX6_judge 160 = .ok (.iinc 8 1, 3) := by decide +kernel
theorem dX6_judge_163 : decode cX6_judge 163 = .ok (.goto (-61), 3) := by decide +kernel
theorem dX6_judge_166 : decode cX6_judge 166 = .ok (.iinc 5 1, 3) := by decide +kernel
theorem dX6_judge_169 : decode cX6_judge 169 = .ok (.goto (-151), 3) := by decide +kernel
theorem dX6_judge_172 : decode cX6_judge 172 = .ok (.aload_n 0, 1) := by decide +kernel
theorem dX6_judge_173 : decode cX6_judge 173 = .ok (.iload_n 3, 1) := by decide +kernel
theorem dX6_judge_174 : decode cX6_judge 174 = .ok (.invokestatic 86, 3) := by decide +kernel
theorem dX6_judge_177 : decode cX6_judge 177 = .ok (.putfield 91, 3) := by decide +kernel
theorem dX6_judge_180 : decode cX6_judge 180 = .ok (.aload_n 0, 1) := by decide +kernel
theorem dX6_judge_181 : decode cX6_judge 181 = .ok (.iload 4, 2) := by decide +kernel
theorem dX6_judge_183 : decode cX6_judge 183 = .ok (.invokestatic 86, 3) := by decide +kernel
theorem dX6_judge_186 : decode cX6_judge 186 = .ok (.putfield 94, 3) := by decide +kernel
theorem dX6_judge_189 : decode cX6_judge 189 = .ok (.return_, 1) := by decide +kernel
noncomputable def f_X6_judge_L102 (M : ZMem) (x5 : Int32) (x6 : Int32) (s : (Int32 × Int32 × Int32)) : Option ((Int32 × Int32 × Int32) ⊕ (Int32 × Int32)) := if x6 ≤ s.2.2 then some (.inr (s.1, s.2.1)) else zbind (f_X7_rowNumber M x5 s.2.2) (fun r_114 => zbind (f_X7_lengthOf M r_114) (fun r_128 => zbind (f_X7_letterAt M r_114 (r_128 - (zI 1))) (fun r_133 => zbind (f_X0_signOf M r_133) (fun r_136 => zbnd (s.1 ||| ((zI 1) <<< (r_136 &&& 31))) (fun x3_141 => zbind (f_X7_letterAt M r_114 (zI 0)) (fun r_150 => zbind (f_X0_signOf M r_150) (fun r_153 => zbnd (s.2.1 ||| ((zI 1) <<< (r_153 &&& 31))) (fun x4_158 => zbnd (s.2.2 + (zI 1)) (fun x8_160 => some (.inl (x3_141, x4_158, x8_160)))))))))))
set_option maxRecDepth 100000 in
set_option maxHeartbeats 4000000 in
theorem w_X6_judge_L102 {E : ZEv} {G : ZG} {K : ZMem → Prop} (h : zRu lyC E G (zRv K) cX6_judge RX6 10 none 2) (M : ZMem) (x5 : Int32) (x6 : Int32) (s : (Int32 × Int32 × Int32)) (hk : zOk (zloop (f_X6_judge_L102 M x5 x6) s) (fun e => G M 166 [(0, zrf E 30), (1, zrf E 11), (2, zrf E 3), (3, .int e.1), (4, .int e.2), (5, .int x5)] [])) : G M 102 [(0, zrf E 30), (1, zrf E 11), (2, zrf E 3), (3, .int s.1), (4, .int s.2.1), (5, .int x5), (6, .int x6), (8, .int s.2.2)] [] := by
  refine zloop_walk (P := fun s => G M 102 [(0, zrf E 30), (1, zrf E 11), (2, zrf E 3), (3, .int s.1), (4, .int s.2.1), (5, .int x5), (6, .int x6), (8, .int s.2.2)] []) hk (fun s hk => ?_)
  unfold f_X6_judge_L102 at hk
  refine zr_iload h dX6_judge_102 7 rfl ?_
  refine zr_iload h dX6_judge_104 6 rfl ?_
  refine zr_icmp_ge (tgt := 166) h dX6_judge_106 (by decide) (fun c => ?_) (fun c => ?_)
  · have hk := zOk_t c hk
    have hk := zOk_some hk
    exact zr_weak h [0, 1, 2, 3, 4, 5] rfl hk
  · have hk := zOk_f c hk
    refine zr_aload_n h dX6_judge_109 1 rfl rfl ?_
    refine zr_iload h dX6_judge_110 5 rfl ?_
    refine zr_iload h dX6_judge_112 7 rfl ?_
    refine zr_callVp h lC_11 zcw_X6_41 (by decide) (c_X7_rowNumber E M x5 s.2.2 _ (zOk_bind hk)) rfl rfl (Nat.le_of_ble_eq_true rfl) dX6_judge_114 (fun r_114 hk => ?_)
    refine zr_istore (L' := [(0, zrf E 30), (1, zrf E 11), (2, zrf E 3), (3, .int s.1), (4, .int s.2.1), (5, .int x5), (6, .int x6), (8, .int s.2.2), (9, .int r_114)]) h [1, 2, 3, 4, 5, 6, 7, 8, 0] dX6_judge_117 (by decide) rfl ?_
    refine zr_iload_n h dX6_judge_119 3 rfl rfl ?_
    refine zr_iconst (v := (zI 1)) h dX6_judge_120 rfl ?_
    refine zr_aload_n h dX6_judge_121 2 rfl rfl ?_
    refine zr_aload_n h dX6_judge_122 1 rfl rfl ?_
    refine zr_iload h dX6_judge_123 8 rfl ?_
    refine zr_aload_n h dX6_judge_125 1 rfl rfl ?_
    refine zr_iload h dX6_judge_126 8 rfl ?_
    refine zr_callVp h lC_11 zcw_X6_60 (by decide) (c_X7_lengthOf E M r_114 _ (zOk_bind hk)) rfl rfl (Nat.le_of_ble_eq_true rfl) dX6_judge_128 (fun r_128 hk => ?_)
    refine zr_iconst (v := (zI 1)) h dX6_judge_131 rfl ?_
    refine zr_isub h dX6_judge_132 ?_
    refine zr_callVp h lC_11 zcw_X6_68 (by decide) (c_X7_letterAt E M r_114 (r_128 - (zI 1)) _ (zOk_bind hk)) rfl rfl (Nat.le_of_ble_eq_true rfl) dX6_judge_133 (fun r_133 hk => ?_)
    refine zr_callVp h lC_3 zcw_X6_71 (by decide) (c_X0_signOf E M r_133 _ (zOk_bind hk)) rfl rfl (Nat.le_of_ble_eq_true rfl) dX6_judge_136 (fun r_136 hk => ?_)
    refine zr_ishl h dX6_judge_139 ?_
    refine zr_ior h dX6_judge_140 ?_
    refine zr_topi (fun x3_141 ex => ?_)
    have hk := zOk_bnd ex hk
    refine zr_istore_n (L' := [(0, zrf E 30), (1, zrf E 11), (2, zrf E 3), (3, .int x3_141), (4, .int s.2.1), (5, .int x5), (6, .int x6), (8, .int s.2.2), (9, .int r_114)]) h [1, 2, 3, 0, 4, 5, 6, 7, 8] dX6_judge_141 rfl (by decide) rfl ?_
    refine zr_iload h dX6_judge_142 4 rfl ?_
    refine zr_iconst (v := (zI 1)) h dX6_judge_144 rfl ?_
    refine zr_aload_n h dX6_judge_145 2 rfl rfl ?_
    refine zr_aload_n h dX6_judge_146 1 rfl rfl ?_
    refine zr_iload h dX6_judge_147 8 rfl ?_
    refine zr_iconst (v := (zI 0)) h dX6_judge_149 rfl ?_
    refine zr_callVp h lC_11 zcw_X6_68 (by decide) (c_X7_letterAt E M r_114 (zI 0) _ (zOk_bind hk)) rfl rfl (Nat.le_of_ble_eq_true rfl) dX6_judge_150 (fun r_150 hk => ?_)
    refine zr_callVp h lC_3 zcw_X6_71 (by decide) (c_X0_signOf E M r_150 _ (zOk_bind hk)) rfl rfl (Nat.le_of_ble_eq_true rfl) dX6_judge_153 (fun r_153 hk => ?_)
    refine zr_ishl h dX6_judge_156 ?_
    refine zr_ior h dX6_judge_157 ?_
    refine zr_topi (fun x4_158 ex => ?_)
    have hk := zOk_bnd ex hk
    refine zr_istore (L' := [(0, zrf E 30), (1, zrf E 11), (2, zrf E 3), (3, .int x3_141), (4, .int x4_158), (5, .int x5), (6, .int x6), (8, .int s.2.2)]) h [1, 2, 3, 4, 0, 5, 6, 7] dX6_judge_158 (by decide) rfl ?_
    obtain ⟨x8_160, ex⟩ : ∃ y : Int32, y = s.2.2 + (zI 1) := ⟨_, rfl⟩
    have hk := zOk_bnd ex hk
    refine zr_iinc (v := x8_160) (L' := [(0, zrf E 30), (1, zrf E 11), (2, zrf E 3), (3, .int x3_141), (4, .int x4_158), (5, .int x5), (6, .int x6), (8, .int x8_160)]) h 7 [1, 2, 3, 4, 5, 6, 7, 0] dX6_judge_160 rfl (by rw [ex]; rfl) (by decide) rfl ?_
    refine zr_goto (tgt := 102) h dX6_judge_163 (by decide) ?_
    have hk := zOk_some hk
    exact zr_weak h [0, 1, 2, 3, 4, 5, 6, 7] rfl hk
noncomputable def f_X6_judge_95_L18 (M : ZMem) (x3 : Int32) (x4 : Int32) (x5 : Int32) (x6 : Int32) (v1 : Int32) (v2 : Int32) : Option ((ZMem × Int32 × Int32 × Int32) ⊕ (ZMem × Int32 × Int32)) := zbnd (zstI M 30 6 (v1 + v2)) (fun M_96 => zbind (zloop (f_X6_judge_L102 M_96 x5 x6) (x3, x4, (zI 0))) (fun e102 => zbnd (x5 + (zI 1)) (fun x5_166 => some (.inl (M_96, e102.1, e102.2, x5_166)))))
set_option maxRecDepth 100000 in
set_option maxHeartbeats 4000000 in
theorem w_X6_judge_95_L18 {E : ZEv} {G : ZG} {K : ZMem → Prop} (h : zRu lyC E G (zRv K) cX6_judge RX6 10 none 2) (M : ZMem) (x3 : Int32) (x4 : Int32) (x5 : Int32) (x6 : Int32) (v1 : Int32) (v2 : Int32) (hk : zOk (f_X6_judge_95_L18 M x3 x4 x5 x6 v1 v2) (zlp (fun s => G s.1 18 [(0, zrf E 30), (1, zrf E 11), (2, zrf E 3), (3, .int s.2.1), (4, .int s.2.2.1), (5, .int s.2.2.2)] []) (fun e => G e.1 172 [(0, zrf E 30), (3, .int e.2.1), (4, .int e.2.2)] []))) : G M 95 [(0, zrf E 30), (1, zrf E 11), (2, zrf E 3), (3, .int x3), (4, .int x4), (5, .int x5), (6, .int x6)] [.int v2, .int v1, zrf E 30] := by
  unfold f_X6_judge_95_L18 at hk
  refine zr_iadd h dX6_judge_95 ?_
  refine zr_putI h zfp_X6_80 lC_30 rfl dX6_judge_96 ?_
  refine zr_mem (fun M_96 eM => ?_)
  have hk := zOk_bnd eM hk
  refine zr_iconst (v := (zI 0)) h dX6_judge_99 rfl ?_
  refine zr_istore (L' := [(0, zrf E 30), (1, zrf E 11), (2, zrf E 3), (3, .int x3), (4, .int x4), (5, .int x5), (6, .int x6), (8, .int (zI 0))]) h [1, 2, 3, 4, 5, 6, 7, 0] dX6_judge_100 (by decide) rfl ?_
  refine w_X6_judge_L102 h M_96 x5 x6 (x3, x4, (zI 0)) (zOk_mono (zOk_bind hk) (fun e102 hk => ?_))
  obtain ⟨x5_166, ex⟩ : ∃ y : Int32, y = x5 + (zI 1) := ⟨_, rfl⟩
  have hk := zOk_bnd ex hk
  refine zr_iinc (v := x5_166) (L' := [(0, zrf E 30), (1, zrf E 11), (2, zrf E 3), (3, .int e102.1), (4, .int e102.2), (5, .int x5_166)]) h 5 [1, 2, 3, 4, 5, 0] dX6_judge_166 rfl (by rw [ex]; rfl) (by decide) rfl ?_
  refine zr_goto (tgt := 18) h dX6_judge_169 (by decide) ?_
  have hk := zOk_some hk
  exact zr_weak h [0, 1, 2, 3, 4, 5] rfl hk
noncomputable def f_X6_judge_76_L18 (M : ZMem) (x3 : Int32) (x4 : Int32) (x5 : Int32) (x6 : Int32) (x7 : Int32) (v1 : Int32) (v2 : Int32) : Option ((ZMem × Int32 × Int32 × Int32) ⊕ (ZMem × Int32 × Int32)) := zbnd (zstI M 30 5 (v1 + v2)) (fun M_77 => if (zI 0) ≤ x7 then f_X6_judge_95_L18 M_77 x3 x4 x5 x6 (M_77.1 30 6) (zI 0) else f_X6_judge_95_L18 M_77 x3 x4 x5 x6 (M_77.1 30 6) (zI 1))
set_option maxRecDepth 100000 in
set_option maxHeartbeats 4000000 in
theorem w_X6_judge_76_L18 {E : ZEv} {G : ZG} {K : ZMem → Prop} (h : zRu lyC E G (zRv K) cX6_judge RX6 10 none 2) (M : ZMem) (x3 : Int32) (x4 : Int32) (x5 : Int32) (x6 : Int32) (x7 : Int32) (v1 : Int32) (v2 : Int32) (hk : zOk (f_X6_judge_76_L18 M x3 x4 x5 x6 x7 v1 v2) (zlp (fun s => G s.1 18 [(0, zrf E 30), (1, zrf E 11), (2, zrf E 3), (3, .int s.2.1), (4, .int s.2.2.1), (5, .int s.2.2.2)] []) (fun e => G e.1 172 [(0, zrf E 30), (3, .int e.2.1), (4, .int e.2.2)] []))) : G M 76 [(0, zrf E 30), (1, zrf E 11), (2, zrf E 3), (3, .int x3), (4, .int x4), (5, .int x5), (6, .int x6), (7, .int x7)] [.int v2, .int v1, zrf E 30] := by
  unfold f_X6_judge_76_L18 at hk
  refine zr_iadd h dX6_judge_76 ?_
  refine zr_putI h zfp_X6_76 lC_30 rfl dX6_judge_77 ?_
  refine zr_mem (fun M_77 eM => ?_)
  have hk := zOk_bnd eM hk
  refine zr_aload_n h dX6_judge_80 0 rfl rfl ?_
  refine zr_dup h dX6_judge_81 rfl ?_
  refine zr_getI h zfo_X6_80 lC_30 rfl dX6_judge_82 ?_
  refine zr_iload h dX6_judge_85 7 rfl ?_
  refine zr_if_ge (tgt := 94) h dX6_judge_87 (by decide) (fun c => ?_) (fun c => ?_)
  · have hk := zOk_t c hk
    refine zr_iconst (v := (zI 0)) h dX6_judge_94 rfl ?_
    exact zr_weak h [0, 1, 2, 3, 4, 5, 6] rfl (w_X6_judge_95_L18 h M_77 x3 x4 x5 x6 (M_77.1 30 6) (zI 0) hk)
  · have hk := zOk_f c hk
    refine zr_iconst (v := (zI 1)) h dX6_judge_90 rfl ?_
    refine zr_goto (tgt := 95) h dX6_judge_91 (by decide) ?_
    exact zr_weak h [0, 1, 2, 3, 4, 5, 6] rfl (w_X6_judge_95_L18 h M_77 x3 x4 x5 x6 (M_77.1 30 6) (zI 1) hk)
noncomputable def f_X6_judge_59_L18 (M : ZMem) (x3 : Int32) (x4 : Int32) (x5 : Int32) (x6 : Int32) (v0 : Int32) : Option ((ZMem × Int32 × Int32 × Int32) ⊕ (ZMem × Int32 × Int32)) := if v0 ≤ (zI 0) then f_X6_judge_76_L18 M x3 x4 x5 x6 v0 (M.1 30 5) (zI 0) else f_X6_judge_76_L18 M x3 x4 x5 x6 v0 (M.1 30 5) (zI 1)
set_option maxRecDepth 100000 in
set_option maxHeartbeats 4000000 in
theorem w_X6_judge_59_L18 {E : ZEv} {G : ZG} {K : ZMem → Prop} (h : zRu lyC E G (zRv K) cX6_judge RX6 10 none 2) (M : ZMem) (x3 : Int32) (x4 : Int32) (x5 : Int32) (x6 : Int32) (v0 : Int32) (hk : zOk (f_X6_judge_59_L18 M x3 x4 x5 x6 v0) (zlp (fun s => G s.1 18 [(0, zrf E 30), (1, zrf E 11), (2, zrf E 3), (3, .int s.2.1), (4, .int s.2.2.1), (5, .int s.2.2.2)] []) (fun e => G e.1 172 [(0, zrf E 30), (3, .int e.2.1), (4, .int e.2.2)] []))) : G M 59 [(0, zrf E 30), (1, zrf E 11), (2, zrf E 3), (3, .int x3), (4, .int x4), (5, .int x5), (6, .int x6)] [.int v0] := by
  unfold f_X6_judge_59_L18 at hk
  refine zr_istore (L' := [(0, zrf E 30), (1, zrf E 11), (2, zrf E 3), (3, .int x3), (4, .int x4), (5, .int x5), (6, .int x6), (7, .int v0)]) h [1, 2, 3, 4, 5, 6, 7, 0] dX6_judge_59 (by decide) rfl ?_
  refine zr_aload_n h dX6_judge_61 0 rfl rfl ?_
  refine zr_dup h dX6_judge_62 rfl ?_
  refine zr_getI h zfo_X6_76 lC_30 rfl dX6_judge_63 ?_
  refine zr_iload h dX6_judge_66 7 rfl ?_
  refine zr_if_le (tgt := 75) h dX6_judge_68 (by decide) (fun c => ?_) (fun c => ?_)
  · have hk := zOk_t c hk
    refine zr_iconst (v := (zI 0)) h dX6_judge_75 rfl ?_
    exact w_X6_judge_76_L18 h M x3 x4 x5 x6 v0 (M.1 30 5) (zI 0) hk
  · have hk := zOk_f c hk
    refine zr_iconst (v := (zI 1)) h dX6_judge_71 rfl ?_
    refine zr_goto (tgt := 76) h dX6_judge_72 (by decide) ?_
    exact w_X6_judge_76_L18 h M x3 x4 x5 x6 v0 (M.1 30 5) (zI 1) hk
noncomputable def f_X6_judge_L18 (s : (ZMem × Int32 × Int32 × Int32)) : Option ((ZMem × Int32 × Int32 × Int32) ⊕ (ZMem × Int32 × Int32)) := zbind (f_X7_told s.1) (fun r_21 => if r_21 ≤ s.2.2.2 then some (.inr (s.1, s.2.1, s.2.2.1)) else zbind (f_X7_rowsOf s.1 s.2.2.2) (fun r_30 => if (zI 2) ≤ r_30 then zbind (f_X7_rowNumber s.1 s.2.2.2 (r_30 - (zI 1))) (fun r_53 => zbind (f_X7_raggedness s.1 r_53) (fun r_56 => f_X6_judge_59_L18 s.1 s.2.1 s.2.2.1 s.2.2.2 r_30 r_56)) else f_X6_judge_59_L18 s.1 s.2.1 s.2.2.1 s.2.2.2 r_30 (zI 0)))
set_option maxRecDepth 100000 in
set_option maxHeartbeats 4000000 in
theorem w_X6_judge_L18 {E : ZEv} {G : ZG} {K : ZMem → Prop} (h : zRu lyC E G (zRv K) cX6_judge RX6 10 none 2) (s : (ZMem × Int32 × Int32 × Int32)) (hk : zOk (zloop (f_X6_judge_L18) s) (fun e => G e.1 172 [(0, zrf E 30), (3, .int e.2.1), (4, .int e.2.2)] [])) : G s.1 18 [(0, zrf E 30), (1, zrf E 11), (2, zrf E 3), (3, .int s.2.1), (4, .int s.2.2.1), (5, .int s.2.2.2)] [] := by
  refine zloop_walk (P := fun s => G s.1 18 [(0, zrf E 30), (1, zrf E 11), (2, zrf E 3), (3, .int s.2.1), (4, .int s.2.2.1), (5, .int s.2.2.2)] []) hk (fun s hk => ?_)
  unfold f_X6_judge_L18 at hk
  refine zr_iload h dX6_judge_18 5 rfl ?_
  refine zr_aload_n h dX6_judge_20 1 rfl rfl ?_
  refine zr_callVp h lC_11 zcw_X6_31 (by decide) (c_X7_told E s.1 _ (zOk_bind hk)) rfl rfl (Nat.le_of_ble_eq_true rfl) dX6_judge_21 (fun r_21 hk => ?_)
  refine zr_icmp_ge (tgt := 172) h dX6_judge_24 (by decide) (fun c => ?_) (fun c => ?_)
  · have hk := zOk_t c hk
    have hk := zOk_some hk
    exact zr_weak h [0, 3, 4] rfl hk
  · have hk := zOk_f c hk
    refine zr_aload_n h dX6_judge_27 1 rfl rfl ?_
    refine zr_iload h dX6_judge_28 5 rfl ?_
    refine zr_callVp h lC_11 zcw_X6_37 (by decide) (c_X7_rowsOf E s.1 s.2.2.2 _ (zOk_bind hk)) rfl rfl (Nat.le_of_ble_eq_true rfl) dX6_judge_30 (fun r_30 hk => ?_)
    refine zr_istore (L' := [(0, zrf E 30), (1, zrf E 11), (2, zrf E 3), (3, .int s.2.1), (4, .int s.2.2.1), (5, .int s.2.2.2), (6, .int r_30)]) h [1, 2, 3, 4, 5, 6, 0] dX6_judge_33 (by decide) rfl ?_
    refine zr_iload h dX6_judge_35 6 rfl ?_
    refine zr_iconst (v := (zI 2)) h dX6_judge_37 rfl ?_
    refine zr_icmp_ge (tgt := 45) h dX6_judge_38 (by decide) (fun c => ?_) (fun c => ?_)
    · have hk := zOk_t c hk
      refine zr_aload_n h dX6_judge_45 1 rfl rfl ?_
      refine zr_aload_n h dX6_judge_46 1 rfl rfl ?_
      refine zr_iload h dX6_judge_47 5 rfl ?_
      refine zr_iload h dX6_judge_49 6 rfl ?_
      refine zr_iconst (v := (zI 1)) h dX6_judge_51 rfl ?_
      refine zr_isub h dX6_judge_52 ?_
      refine zr_callVp h lC_11 zcw_X6_41 (by decide) (c_X7_rowNumber E s.1 s.2.2.2 (r_30 - (zI 1)) _ (zOk_bind hk)) rfl rfl (Nat.le_of_ble_eq_true rfl) dX6_judge_53 (fun r_53 hk => ?_)
      refine zr_callVp h lC_11 zcw_X6_83 (by decide) (c_X7_raggedness E s.1 r_53 _ (zOk_bind hk)) rfl rfl (Nat.le_of_ble_eq_true rfl) dX6_judge_56 (fun r_56 hk => ?_)
      exact w_X6_judge_59_L18 h s.1 s.2.1 s.2.2.1 s.2.2.2 r_30 r_56 hk
    · have hk := zOk_f c hk
      refine zr_iconst (v := (zI 0)) h dX6_judge_41 rfl ?_
      refine zr_goto (tgt := 59) h dX6_judge_42 (by decide) ?_
      exact w_X6_judge_59_L18 h s.1 s.2.1 s.2.2.1 s.2.2.2 r_30 (zI 0) hk
noncomputable def f_X6_judge (M : ZMem) : Option ZMem := zbnd (zstI M 30 5 (zI 0)) (fun M_2 => zbnd (zstI M_2 30 6 (zI 0)) (fun M_7 => zbind (zloop (f_X6_judge_L18) (M_7, (zI 0), (zI 0), (zI 0))) (fun e18 => zbind (f_J6_bitCount_0f7a4 e18.1 e18.2.1) (fun r_174 => zbnd (zstI e18.1 30 7 r_174) (fun M_177 => zbind (f_J6_bitCount_0f7a4 M_177 e18.2.2) (fun r_183 => zbnd (zstI M_177 30 8 r_183) (fun M_186 => some M_186)))))))
set_option maxRecDepth 100000 in
set_option maxHeartbeats 4000000 in
theorem c_X6_judge (E : ZEv) (M : ZMem) (K : ZMem → Prop) (hk : zOk (f_X6_judge M) K) : zCon lyC E yX6_judge cX6_judge 10 none 2 [zrf E 30, zrf E 11, zrf E 3] M (zRv K) := by
  refine zcon_of (L0 := [(0, zrf E 30), (1, zrf E 11), (2, zrf E 3)]) (by decide) rfl (Nat.le_of_ble_eq_true rfl) (fun G h => ?_)
  have h : zRu lyC E G (zRv K) cX6_judge RX6 10 none 2 := h
  unfold f_X6_judge at hk
  refine zr_aload_n h dX6_judge_0 0 rfl rfl ?_
  refine zr_iconst (v := (zI 0)) h dX6_judge_1 rfl ?_
  refine zr_putI h zfp_X6_76 lC_30 rfl dX6_judge_2 ?_
  refine zr_mem (fun M_2 eM => ?_)
  have hk := zOk_bnd eM hk
  refine zr_aload_n h dX6_judge_5 0 rfl rfl ?_
  refine zr_iconst (v := (zI 0)) h dX6_judge_6 rfl ?_
  refine zr_putI h zfp_X6_80 lC_30 rfl dX6_judge_7 ?_
  refine zr_mem (fun M_7 eM => ?_)
  have hk := zOk_bnd eM hk
  refine zr_iconst (v := (zI 0)) h dX6_judge_10 rfl ?_
  refine zr_istore_n (L' := [(0, zrf E 30), (1, zrf E 11), (2, zrf E 3), (3, .int (zI 0))]) h [1, 2, 3, 0] dX6_judge_11 rfl (by decide) rfl ?_
  refine zr_iconst (v := (zI 0)) h dX6_judge_12 rfl ?_
  refine zr_istore (L' := [(0, zrf E 30), (1, zrf E 11), (2, zrf E 3), (3, .int (zI 0)), (4, .int (zI 0))]) h [1, 2, 3, 4, 0] dX6_judge_13 (by decide) rfl ?_
  refine zr_iconst (v := (zI 0)) h dX6_judge_15 rfl ?_
  refine zr_istore (L' := [(0, zrf E 30), (1, zrf E 11), (2, zrf E 3), (3, .int (zI 0)), (4, .int (zI 0)), (5, .int (zI 0))]) h [1, 2, 3, 4, 5, 0] dX6_judge_16 (by decide) rfl ?_
  refine w_X6_judge_L18 h (M_7, (zI 0), (zI 0), (zI 0)) (zOk_mono (zOk_bind hk) (fun e18 hk => ?_))
  refine zr_aload_n h dX6_judge_172 0 rfl rfl ?_
  refine zr_iload_n h dX6_judge_173 1 rfl rfl ?_
  refine zr_callSp h zcw_X6_86 (by decide) (c_J6_bitCount_0f7a4 E e18.1 e18.2.1 _ (zOk_bind hk)) rfl rfl (Nat.le_of_ble_eq_true rfl) dX6_judge_174 (fun r_174 hk => ?_)
  refine zr_putI h zfp_X6_91 lC_30 rfl dX6_judge_177 ?_
  refine zr_mem (fun M_177 eM => ?_)
  have hk := zOk_bnd eM hk
  refine zr_aload_n h dX6_judge_180 0 rfl rfl ?_
  refine zr_iload h dX6_judge_181 2 rfl ?_
  refine zr_callSp h zcw_X6_86 (by decide) (c_J6_bitCount_0f7a4 E M_177 e18.2.2 _ (zOk_bind hk)) rfl rfl (Nat.le_of_ble_eq_true rfl) dX6_judge_183 (fun r_183 hk => ?_)
  refine zr_putI h zfp_X6_94 lC_30 rfl dX6_judge_186 ?_
  refine zr_mem (fun M_186 eM => ?_)
  have hk := zOk_bnd eM hk
  have hk := zOk_some hk
  exact zr_vret h dX6_judge_189 ⟨rfl, hk⟩
theorem dX6_verdict_0 : decode cX6_verdict 0 = .ok (.iload_n 1, 1) := by decide +kernel
theorem dX6_verdict_1 : decode cX6_verdict 1 = .ok (.tableswitch 100 0 4 #[35, 80, 85, 90, 95], 35) := by decide +kernel
theorem dX6_verdict_36 : decode cX6_verdict 36 = .ok (.aload_n 0, 1) := by decide +kernel
theorem dX6_verdict_37 : decode cX6_verdict 37 = .ok (.getfield 76, 3) := by decide +kernel
theorem dX6_verdict_40 : decode cX6_verdict 40 = .ok (.aload_n 0, 1) := by decide +kernel
theorem dX6_verdict_41 : decode cX6_verdict 41 = .ok (.getfield 80, 3) := by decide +kernel
theorem dX6_verdict_44 : decode cX6_verdict 44 = .ok (.if_icmp .eq 20, 3) := by decide +kernel
theorem dX6_verdict_47 : decode cX6_verdict 47 = .ok (.aload_n 0, 1) := by decide +kernel
theorem dX6_verdict_48 : decode cX6_verdict 48 = .ok (.getfield 76, 3) := by decide +kernel
theorem dX6_verdict_51 : decode cX6_verdict 51 = .ok (.aload_n 0, 1) := by decide +kernel
theorem dX6_verdict_52 : decode cX6_verdict 52 = .ok (.getfield 80, 3) := by decide +kernel
theorem dX6_verdict_55 : decode cX6_verdict 55 = .ok (.if_icmp .le 7, 3) := by decide +kernel
theorem dX6_verdict_58 : decode cX6_verdict 58 = .ok (.iconst 0, 1) := by decide +kernel
theorem dX6_verdict_59 : decode cX6_verdict 59 = .ok (.goto 4, 3) := by decide +kernel
theorem dX6_verdict_62 : decode cX6_verdict 62 = .ok (.iconst 1, 1) := by decide +kernel
theorem dX6_verdict_63 : decode cX6_verdict 63 = .ok (.ireturn, 1) := by decide +kernel
theorem dX6_verdict_64 : decode cX6_verdict 64 = .ok (.aload_n 0, 1) := by decide +kernel
theorem dX6_verdict_65 : decode cX6_verdict 65 = .ok (.getfield 94, 3) := by decide +kernel
theorem dX6_verdict_68 : decode cX6_verdict 68 = .ok (.aload_n 0, 1) := by decide +kernel
theorem dX6_verdict_69 : decode cX6_verdict 69 = .ok (.getfield 91, 3) := by decide +kernel
theorem dX6_verdict_72 : decode cX6_verdict 72 = .ok (.if_icmp .ge 7, 3) := by decide +kernel
theorem dX6_verdict_75 : decode cX6_verdict 75 = .ok (.iconst 1, 1) := by decide +kernel
theorem dX6_verdict_76 : decode cX6_verdict 76 = .ok (.goto 4, 3) := by decide +kernel
theorem dX6_verdict_79 : decode cX6_verdict 79 = .ok (.iconst 0, 1) := by decide +kernel
theorem dX6_verdict_80 : decode cX6_verdict 80 = .ok (.ireturn, 1) := by decide +kernel
theorem dX6_verdict_81 : decode cX6_verdict 81 = .ok (.aload_n 0, 1) := by decide +kernel
theorem dX6_verdict_82 : decode cX6_verdict 82 = .ok (.getfield 76, 3) := by decide +kernel
theorem dX6_verdict_85 : decode cX6_verdict 85 = .ok (.ireturn, 1) := by decide +kernel
theorem dX6_verdict_86 : decode cX6_verdict 86 = .ok (.aload_n 0, 1) := by decide +kernel
theorem dX6_verdict_87 : decode cX6_verdict 87 = .ok (.getfield 80, 3) := by decide +kernel
theorem dX6_verdict_90 : decode cX6_verdict 90 = .ok (.ireturn, 1) := by decide +kernel
theorem dX6_verdict_91 : decode cX6_verdict 91 = .ok (.aload_n 0, 1) := by decide +kernel
theorem dX6_verdict_92 : decode cX6_verdict 92 = .ok (.getfield 91, 3) := by decide +kernel
theorem dX6_verdict_95 : decode cX6_verdict 95 = .ok (.ireturn, 1) := by decide +kernel
theorem dX6_verdict_96 : decode cX6_verdict 96 = .ok (.aload_n 0, 1) := by decide +kernel
theorem dX6_verdict_97 : decode cX6_verdict 97 = .ok (.getfield 94, 3) := by decide +kernel
theorem dX6_verdict_100 : decode cX6_verdict 100 = .ok (.ireturn, 1) := by decide +kernel
theorem dX6_verdict_101 : decode cX6_verdict 101 = .ok (.iconst (-1), 1) := by decide +kernel
theorem dX6_verdict_102 : decode cX6_verdict 102 = .ok (.ireturn, 1) := by decide +kernel
noncomputable def f_X6_verdict (M : ZMem) (x1 : Int32) : Option Int32 := if x1 = (zI 0) then if (M.1 30 5) = (M.1 30 6) then if (M.1 30 7) ≤ (M.1 30 8) then some (zI 0) else some (zI 1) else if (M.1 30 5) ≤ (M.1 30 6) then some (zI 1) else some (zI 0) else (if x1 = (zI 1) then some (M.1 30 5) else (if x1 = (zI 2) then some (M.1 30 6) else (if x1 = (zI 3) then some (M.1 30 7) else (if x1 = (zI 4) then some (M.1 30 8) else (some (zI (-1)))))))
set_option maxRecDepth 100000 in
set_option maxHeartbeats 4000000 in
theorem c_X6_verdict (E : ZEv) (M : ZMem) (x1 : Int32) (K : Int32 → Prop) (hk : zOk (f_X6_verdict M x1) K) : zCon lyC E yX6_verdict cX6_verdict 2 (some .int) 0 [zrf E 30, .int x1] M (zRp M K) := by
  refine zcon_of (L0 := [(0, zrf E 30), (1, .int x1)]) (by decide) rfl (Nat.le_of_ble_eq_true rfl) (fun G h => ?_)
  have h : zRu lyC E G (zRp M K) cX6_verdict RX6 2 (some .int) 0 := h
  unfold f_X6_verdict at hk
  refine zr_iload_n h dX6_verdict_0 1 rfl rfl ?_
  by_cases c0 : x1 = (zI 0)
  · have hk := zOk_t c0 hk
    refine zr_tabIn (tgt := 36) (off := 35) h dX6_verdict_1 (by rw [c0]; decide) (by rw [c0]; decide) (by rw [c0]; decide) (by decide) ?_
    refine zr_aload_n h dX6_verdict_36 0 rfl rfl ?_
    refine zr_getI h zfo_X6_76 lC_30 rfl dX6_verdict_37 ?_
    refine zr_aload_n h dX6_verdict_40 0 rfl rfl ?_
    refine zr_getI h zfo_X6_80 lC_30 rfl dX6_verdict_41 ?_
    refine zr_icmp_eq (tgt := 64) h dX6_verdict_44 (by decide) (fun c => ?_) (fun c => ?_)
    · have hk := zOk_t c hk
      refine zr_aload_n h dX6_verdict_64 0 rfl rfl ?_
      refine zr_getI h zfo_X6_94 lC_30 rfl dX6_verdict_65 ?_
      refine zr_aload_n h dX6_verdict_68 0 rfl rfl ?_
      refine zr_getI h zfo_X6_91 lC_30 rfl dX6_verdict_69 ?_
      refine zr_icmp_ge (tgt := 79) h dX6_verdict_72 (by decide) (fun c => ?_) (fun c => ?_)
      · have hk := zOk_t c hk
        refine zr_iconst (v := (zI 0)) h dX6_verdict_79 rfl ?_
        have hk := zOk_some hk
        exact zr_iret h dX6_verdict_80 ⟨rfl, _, rfl, hk⟩
      · have hk := zOk_f c hk
        refine zr_iconst (v := (zI 1)) h dX6_verdict_75 rfl ?_
        refine zr_goto (tgt := 80) h dX6_verdict_76 (by decide) ?_
        have hk := zOk_some hk
        exact zr_iret h dX6_verdict_80 ⟨rfl, _, rfl, hk⟩
    · have hk := zOk_f c hk
      refine zr_aload_n h dX6_verdict_47 0 rfl rfl ?_
      refine zr_getI h zfo_X6_76 lC_30 rfl dX6_verdict_48 ?_
      refine zr_aload_n h dX6_verdict_51 0 rfl rfl ?_
      refine zr_getI h zfo_X6_80 lC_30 rfl dX6_verdict_52 ?_
      refine zr_icmp_le (tgt := 62) h dX6_verdict_55 (by decide) (fun c => ?_) (fun c => ?_)
      · have hk := zOk_t c hk
        refine zr_iconst (v := (zI 1)) h dX6_verdict_62 rfl ?_
        have hk := zOk_some hk
        exact zr_iret h dX6_verdict_63 ⟨rfl, _, rfl, hk⟩
      · have hk := zOk_f c hk
        refine zr_iconst (v := (zI 0)) h dX6_verdict_58 rfl ?_
        refine zr_goto (tgt := 63) h dX6_verdict_59 (by decide) ?_
        have hk := zOk_some hk
        exact zr_iret h dX6_verdict_63 ⟨rfl, _, rfl, hk⟩
  have hk := zOk_f c0 hk
  by_cases c1 : x1 = (zI 1)
  · have hk := zOk_t c1 hk
    refine zr_tabIn (tgt := 81) (off := 80) h dX6_verdict_1 (by rw [c1]; decide) (by rw [c1]; decide) (by rw [c1]; decide) (by decide) ?_
    refine zr_aload_n h dX6_verdict_81 0 rfl rfl ?_
    refine zr_getI h zfo_X6_76 lC_30 rfl dX6_verdict_82 ?_
    have hk := zOk_some hk
    exact zr_iret h dX6_verdict_85 ⟨rfl, _, rfl, hk⟩
  have hk := zOk_f c1 hk
  by_cases c2 : x1 = (zI 2)
  · have hk := zOk_t c2 hk
    refine zr_tabIn (tgt := 86) (off := 85) h dX6_verdict_1 (by rw [c2]; decide) (by rw [c2]; decide) (by rw [c2]; decide) (by decide) ?_
    refine zr_aload_n h dX6_verdict_86 0 rfl rfl ?_
    refine zr_getI h zfo_X6_80 lC_30 rfl dX6_verdict_87 ?_
    have hk := zOk_some hk
    exact zr_iret h dX6_verdict_90 ⟨rfl, _, rfl, hk⟩
  have hk := zOk_f c2 hk
  by_cases c3 : x1 = (zI 3)
  · have hk := zOk_t c3 hk
    refine zr_tabIn (tgt := 91) (off := 90) h dX6_verdict_1 (by rw [c3]; decide) (by rw [c3]; decide) (by rw [c3]; decide) (by decide) ?_
    refine zr_aload_n h dX6_verdict_91 0 rfl rfl ?_
    refine zr_getI h zfo_X6_91 lC_30 rfl dX6_verdict_92 ?_
    have hk := zOk_some hk
    exact zr_iret h dX6_verdict_95 ⟨rfl, _, rfl, hk⟩
  have hk := zOk_f c3 hk
  by_cases c4 : x1 = (zI 4)
  · have hk := zOk_t c4 hk
    refine zr_tabIn (tgt := 96) (off := 95) h dX6_verdict_1 (by rw [c4]; decide) (by rw [c4]; decide) (by rw [c4]; decide) (by decide) ?_
    refine zr_aload_n h dX6_verdict_96 0 rfl rfl ?_
    refine zr_getI h zfo_X6_94 lC_30 rfl dX6_verdict_97 ?_
    have hk := zOk_some hk
    exact zr_iret h dX6_verdict_100 ⟨rfl, _, rfl, hk⟩
  have hk := zOk_f c4 hk
  have hz : (x1).toInt ≠ 0 ∧ (x1).toInt ≠ 1 ∧ (x1).toInt ≠ 2 ∧ (x1).toInt ≠ 3 ∧ (x1).toInt ≠ 4 := ⟨zInt_ne c0, zInt_ne c1, zInt_ne c2, zInt_ne c3, zInt_ne c4⟩
  refine zr_tabOut (tgt := 101) h dX6_verdict_1 (by omega) (by decide) ?_
  refine zr_iconst (v := (zI (-1))) h dX6_verdict_101 rfl ?_
  have hk := zOk_some hk
  exact zr_iret h dX6_verdict_102 ⟨rfl, _, rfl, hk⟩
theorem dX6_isTurned_0 : decode cX6_isTurned 0 = .ok (.iload_n 1, 1) := by decide +kernel
theorem dX6_isTurned_1 : decode cX6_isTurned 1 = .ok (.tableswitch 44 0 2 #[27, 29, 31], 27) := by decide +kernel
theorem dX6_isTurned_28 : decode cX6_isTurned 28 = .ok (.iconst 0, 1) := by decide +kernel
theorem dX6_isTurned_29 : decode cX6_isTurned 29 = .ok (.ireturn, 1) := by decide +kernel
theorem dX6_isTurned_30 : decode cX6_isTurned 30 = .ok (.iconst 1, 1) := by decide +kernel
theorem dX6_isTurned_31 : decode cX6_isTurned 31 = .ok (.ireturn, 1) := by decide +kernel
theorem dX6_isTurned_32 : decode cX6_isTurned 32 = .ok (.iload_n 2, 1) := by decide +kernel
theorem dX6_isTurned_33 : decode cX6_isTurned 33 = .ok (.iconst 2, 1) := by decide +kernel
theorem dX6_isTurned_34 : decode cX6_isTurned 34 = .ok (.irem, 1) := by decide +kernel
theorem dX6_isTurned_35 : decode cX6_isTurned 35 = .ok (.iconst 1, 1) := by decide +kernel
theorem dX6_isTurned_36 : decode cX6_isTurned 36 = .ok (.if_icmp .ne 7, 3) := by decide +kernel
theorem dX6_isTurned_39 : decode cX6_isTurned 39 = .ok (.iconst 1, 1) := by decide +kernel
theorem dX6_isTurned_40 : decode cX6_isTurned 40 = .ok (.goto 4, 3) := by decide +kernel
theorem dX6_isTurned_43 : decode cX6_isTurned 43 = .ok (.iconst 0, 1) := by decide +kernel
theorem dX6_isTurned_44 : decode cX6_isTurned 44 = .ok (.ireturn, 1) := by decide +kernel
theorem dX6_isTurned_45 : decode cX6_isTurned 45 = .ok (.aload_n 0, 1) := by decide +kernel
theorem dX6_isTurned_46 : decode cX6_isTurned 46 = .ok (.iconst 0, 1) := by decide +kernel
theorem dX6_isTurned_47 : decode cX6_isTurned 47 = .ok (.invokevirtual 53, 3) := by decide +kernel
theorem dX6_isTurned_50 : decode cX6_isTurned 50 = .ok (.iconst 1, 1) := by decide +kernel
theorem dX6_isTurned_51 : decode cX6_isTurned 51 = .ok (.if_icmp .ne 7, 3) := by decide +kernel
theorem dX6_isTurned_54 : decode cX6_isTurned 54 = .ok (.iconst 1, 1) := by decide +kernel
theorem dX6_isTurned_55 : decode cX6_isTurned 55 = .ok (.goto 4, 3) := by decide +kernel
theorem dX6_isTurned_58 : decode cX6_isTurned 58 = .ok (.iconst 0, 1) := by decide +kernel
theorem dX6_isTurned_59 : decode cX6_isTurned 59 = .ok (.ireturn, 1) := by decide +kernel
noncomputable def f_X6_isTurned (M : ZMem) (x1 : Int32) (x2 : Int32) : Option Int32 := if x1 = (zI 0) then some (zI 0) else (if x1 = (zI 1) then some (zI 1) else (if x1 = (zI 2) then if (x2 - x2 / (zI 2) * (zI 2)) = (zI 1) then some (zI 1) else some (zI 0) else (zbind (f_X6_verdict M (zI 0)) (fun r_47 => if r_47 = (zI 1) then some (zI 1) else some (zI 0)))))
set_option maxRecDepth 100000 in
set_option maxHeartbeats 4000000 in
theorem c_X6_isTurned (E : ZEv) (M : ZMem) (x1 : Int32) (x2 : Int32) (K : Int32 → Prop) (hk : zOk (f_X6_isTurned M x1 x2) K) : zCon lyC E yX6_isTurned cX6_isTurned 3 (some .boolean) 1 [zrf E 30, .int x1, .int x2] M (zRp M K) := by
  refine zcon_of (L0 := [(0, zrf E 30), (1, .int x1), (2, .int x2)]) (by decide) rfl (Nat.le_of_ble_eq_true rfl) (fun G h => ?_)
  have h : zRu lyC E G (zRp M K) cX6_isTurned RX6 3 (some .boolean) 1 := h
  unfold f_X6_isTurned at hk
  refine zr_iload_n h dX6_isTurned_0 1 rfl rfl ?_
  by_cases c0 : x1 = (zI 0)
  · have hk := zOk_t c0 hk
    refine zr_tabIn (tgt := 28) (off := 27) h dX6_isTurned_1 (by rw [c0]; decide) (by rw [c0]; decide) (by rw [c0]; decide) (by decide) ?_
    refine zr_iconst (v := (zI 0)) h dX6_isTurned_28 rfl ?_
    have hk := zOk_some hk
    exact zr_zret h dX6_isTurned_29 (by decide) ⟨rfl, _, rfl, hk⟩
  have hk := zOk_f c0 hk
  by_cases c1 : x1 = (zI 1)
  · have hk := zOk_t c1 hk
    refine zr_tabIn (tgt := 30) (off := 29) h dX6_isTurned_1 (by rw [c1]; decide) (by rw [c1]; decide) (by rw [c1]; decide) (by decide) ?_
    refine zr_iconst (v := (zI 1)) h dX6_isTurned_30 rfl ?_
    have hk := zOk_some hk
    exact zr_zret h dX6_isTurned_31 (by decide) ⟨rfl, _, rfl, hk⟩
  have hk := zOk_f c1 hk
  by_cases c2 : x1 = (zI 2)
  · have hk := zOk_t c2 hk
    refine zr_tabIn (tgt := 32) (off := 31) h dX6_isTurned_1 (by rw [c2]; decide) (by rw [c2]; decide) (by rw [c2]; decide) (by decide) ?_
    refine zr_iload_n h dX6_isTurned_32 2 rfl rfl ?_
    refine zr_iconst (v := (zI 2)) h dX6_isTurned_33 rfl ?_
    refine zr_irem h dX6_isTurned_34 (by decide) ?_
    refine zr_iconst (v := (zI 1)) h dX6_isTurned_35 rfl ?_
    refine zr_icmp_ne (tgt := 43) h dX6_isTurned_36 (by decide) (fun c => ?_) (fun c => ?_)
    · have hk := zOk_t c hk
      refine zr_iconst (v := (zI 1)) h dX6_isTurned_39 rfl ?_
      refine zr_goto (tgt := 44) h dX6_isTurned_40 (by decide) ?_
      have hk := zOk_some hk
      exact zr_zret h dX6_isTurned_44 (by decide) ⟨rfl, _, rfl, hk⟩
    · have hk := zOk_f c hk
      refine zr_iconst (v := (zI 0)) h dX6_isTurned_43 rfl ?_
      have hk := zOk_some hk
      exact zr_zret h dX6_isTurned_44 (by decide) ⟨rfl, _, rfl, hk⟩
  have hk := zOk_f c2 hk
  have hz : (x1).toInt ≠ 0 ∧ (x1).toInt ≠ 1 ∧ (x1).toInt ≠ 2 := ⟨zInt_ne c0, zInt_ne c1, zInt_ne c2⟩
  refine zr_tabOut (tgt := 45) h dX6_isTurned_1 (by omega) (by decide) ?_
  refine zr_aload_n h dX6_isTurned_45 0 rfl rfl ?_
  refine zr_iconst (v := (zI 0)) h dX6_isTurned_46 rfl ?_
  refine zr_callVp h lC_30 zcw_X6_53 (by decide) (c_X6_verdict E M (zI 0) _ (zOk_bind hk)) rfl rfl (Nat.le_of_ble_eq_true rfl) dX6_isTurned_47 (fun r_47 hk => ?_)
  refine zr_iconst (v := (zI 1)) h dX6_isTurned_50 rfl ?_
  refine zr_icmp_ne (tgt := 58) h dX6_isTurned_51 (by decide) (fun c => ?_) (fun c => ?_)
  · have hk := zOk_t c hk
    refine zr_iconst (v := (zI 1)) h dX6_isTurned_54 rfl ?_
    refine zr_goto (tgt := 59) h dX6_isTurned_55 (by decide) ?_
    have hk := zOk_some hk
    exact zr_zret h dX6_isTurned_59 (by decide) ⟨rfl, _, rfl, hk⟩
  · have hk := zOk_f c hk
    refine zr_iconst (v := (zI 0)) h dX6_isTurned_58 rfl ?_
    have hk := zOk_some hk
    exact zr_zret h dX6_isTurned_59 (by decide) ⟨rfl, _, rfl, hk⟩
theorem dX6_readRow_0 : decode cX6_readRow 0 = .ok (.iload_n 3, 1) := by decide +kernel
theorem dX6_readRow_1 : decode cX6_readRow 1 = .ok (.invokestatic 56, 3) := by decide +kernel
theorem dX6_readRow_4 : decode cX6_readRow 4 = .ok (.ifCond .ne 4, 3) := by decide +kernel
theorem dX6_readRow_7 : decode cX6_readRow 7 = .ok (.return_, 1) := by decide +kernel
theorem dX6_readRow_8 : decode cX6_readRow 8 = .ok (.bipush 10, 2) := by decide +kernel
theorem dX6_readRow_10 : decode cX6_readRow 10 = .ok (.aload_n 1, 1) := by decide +kernel
theorem dX6_readRow_11 : decode cX6_readRow 11 = .ok (.iload_n 3, 1) := by decide +kernel
theorem dX6_readRow_12 : decode cX6_readRow 12 = .ok (.invokevirtual 60, 3) := by decide +kernel
theorem dX6_readRow_15 : decode cX6_readRow 15 = .ok (.invokestatic 63, 3) := by decide +kernel
theorem dX6_readRow_18 : decode cX6_readRow 18 = .ok (.istore 5, 2) := by decide +kernel
theorem dX6_readRow_20 : decode cX6_readRow 20 = .ok (.aload_n 0, 1) := by decide +kernel
theorem dX6_readRow_21 : decode cX6_readRow 21 = .ok (.getfield 15, 3) := by decide +kernel
theorem dX6_readRow_24 : decode cX6_readRow 24 = .ok (.iload_n 3, 1) := by decide +kernel
theorem dX6_readRow_25 : decode cX6_readRow 25 = .ok (.iload 5, 2) := by decide +kernel
theorem dX6_readRow_27 : decode cX6_readRow 27 = .ok (.iastore, 1) := by decide +kernel
theorem dX6_readRow_28 : decode cX6_readRow 28 = .ok (.iconst 0, 1) := by decide +kernel
theorem dX6_readRow_29 : decode cX6_readRow 29 = .ok (.istore 6, 2) := by decide +kernel
theorem dX6_readRow_31 : decode cX6_readRow 31 = .ok (.iload 6, 2) := by decide +kernel
theorem dX6_readRow_33 : decode cX6_readRow 33 = .ok (.iload 5, 2) := by decide +kernel
theorem dX6_readRow_35 : decode cX6_readRow 35 = .ok (.if_icmp .ge 51, 3) := by decide +kernel
theorem dX6_readRow_38 : decode cX6_readRow 38 = .ok (.aload_n 1, 1) := by decide +kernel
theorem dX6_readRow_39 : decode cX6_readRow 39 = .ok (.iload_n 3, 1) := by decide +kernel
theorem dX6_readRow_40 : decode cX6_readRow 40 = .ok (.iload 4, 2) := by decide +kernel
theorem dX6_readRow_42 : decode cX6_readRow 42 = .ok (.ifCond .eq 13, 3) := by decide +kernel
theorem dX6_readRow_45 : decode cX6_readRow 45 = .ok (.iload 5, 2) := by decide +kernel
theorem dX6_readRow_47 : decode cX6_readRow 47 = .ok (.iconst 1, 1) := by decide +kernel
theorem dX6_readRow_48 : decode cX6_readRow 48 = .ok (.isub, 1) := by decide +kernel
theorem dX6_readRow_49 : decode cX6_readRow 49 = .ok (.iload 6, 2) := by decide +kernel
theorem dX6_readRow_51 : decode cX6_readRow 51 = .ok (.isub, 1) := by decide +kernel
theorem dX6_readRow_52 : decode cX6_readRow 52 = .ok (.goto 5, 3) := by decide +kernel
theorem dX6_readRow_55 : decode cX6_readRow 55 = .ok (.iload 6, 2) := by decide +kernel
theorem dX6_readRow_57 : decode cX6_readRow 57 = .ok (.invokevirtual 68, 3) := by decide +kernel
theorem dX6_readRow_60 : decode cX6_readRow 60 = .ok (.istore 7, 2) := by decide +kernel
theorem dX6_readRow_62 : decode cX6_readRow 62 = .ok (.aload_n 0, 1) := by decide +kernel
theorem dX6_readRow_63 : decode cX6_readRow 63 = .ok (.getfield 9, 3) := by decide +kernel
theorem dX6_readRow_66 : decode cX6_readRow 66 = .ok (.iload_n 3, 1) := by decide +kernel
theorem dX6_readRow_67 : decode cX6_readRow 67 = .ok (.bipush 10, 2) := by decide +kernel
theorem dX6_readRow_69 : decode cX6_readRow 69 = .ok (.imul, 1) := by decide +kernel
theorem dX6_readRow_70 : decode cX6_readRow 70 = .ok (.iload 6, 2) := by decide +kernel
theorem dX6_readRow_72 : decode cX6_readRow 72 = .ok (.iadd, 1) := by decide +kernel
theorem dX6_readRow_73 : decode cX6_readRow 73 = .ok (.aload_n 2, 1) := by decide +kernel
theorem dX6_readRow_74 : decode cX6_readRow 74 = .ok (.iload 7, 2) := by decide +kernel
theorem dX6_readRow_76 : decode cX6_readRow 76 = .ok (.invokevirtual 71, 3) := by decide +kernel
theorem dX6_readRow_79 : decode cX6_readRow 79 = .ok (.iastore, 1) := by decide +kernel
theorem dX6_readRow_80 : decode cX6_readRow 80 = .ok (.iinc 6 1, 3) := by decide +kernel
theorem dX6_readRow_83 : decode cX6_readRow 83 = .ok (.goto (-52), 3) := by decide +kernel
theorem dX6_readRow_86 : decode cX6_readRow 86 = .ok (.return_, 1) := by decide +kernel
noncomputable def f_X6_readRow_57_L31 (M : ZMem) (x3 : Int32) (x4 : Int32) (x5 : Int32) (x6 : Int32) (v1 : Int32) (v2 : Int32) : Option ((ZMem × Int32) ⊕ (ZMem)) := zbind (f_X7_letterAt M v1 v2) (fun r_57 => zbind (f_X0_signOf M r_57) (fun r_76 => zchk (zin ((x3 * (zI 10)) + x6) 240) (zbnd (zstI M 31 (zix ((x3 * (zI 10)) + x6)) r_76) (fun M_79 => zbnd (x6 + (zI 1)) (fun x6_80 => some (.inl (M_79, x6_80)))))))
set_option maxRecDepth 100000 in
set_option maxHeartbeats 4000000 in
theorem w_X6_readRow_57_L31 {E : ZEv} {G : ZG} {K : ZMem → Prop} (h : zRu lyC E G (zRv K) cX6_readRow RX6 8 none 2) (M : ZMem) (x3 : Int32) (x4 : Int32) (x5 : Int32) (x6 : Int32) (v1 : Int32) (v2 : Int32) (hk : zOk (f_X6_readRow_57_L31 M x3 x4 x5 x6 v1 v2) (zlp (fun s => G s.1 31 [(0, zrf E 30), (1, zrf E 11), (2, zrf E 3), (3, .int x3), (4, .int x4), (5, .int x5), (6, .int s.2)] []) (fun e => G e 86 [] []))) : G M 57 [(0, zrf E 30), (1, zrf E 11), (2, zrf E 3), (3, .int x3), (4, .int x4), (5, .int x5), (6, .int x6)] [.int v2, .int v1, zrf E 11] := by
  unfold f_X6_readRow_57_L31 at hk
  refine zr_callVp h lC_11 zcw_X6_68 (by decide) (c_X7_letterAt E M v1 v2 _ (zOk_bind hk)) rfl rfl (Nat.le_of_ble_eq_true rfl) dX6_readRow_57 (fun r_57 hk => ?_)
  refine zr_istore (L' := [(0, zrf E 30), (1, zrf E 11), (2, zrf E 3), (3, .int x3), (4, .int x4), (5, .int x5), (6, .int x6), (7, .int r_57)]) h [1, 2, 3, 4, 5, 6, 7, 0] dX6_readRow_60 (by decide) rfl ?_
  refine zr_aload_n h dX6_readRow_62 0 rfl rfl ?_
  refine zr_getR h zfo_X6_9 lC_30 rfl dX6_readRow_63 ?_
  refine zr_iload_n h dX6_readRow_66 3 rfl rfl ?_
  refine zr_bipush (v := (zI 10)) h dX6_readRow_67 (by decide) ?_
  refine zr_imul h dX6_readRow_69 ?_
  refine zr_iload h dX6_readRow_70 6 rfl ?_
  refine zr_iadd h dX6_readRow_72 ?_
  refine zr_aload_n h dX6_readRow_73 2 rfl rfl ?_
  refine zr_iload h dX6_readRow_74 7 rfl ?_
  refine zr_callVp h lC_3 zcw_X6_71 (by decide) (c_X0_signOf E M r_57 _ (zOk_bind hk)) rfl rfl (Nat.le_of_ble_eq_true rfl) dX6_readRow_76 (fun r_76 hk => ?_)
  have hb := zOk_chk hk
  have hk := hb.2
  refine zr_iast h lC_31 hb.1 dX6_readRow_79 ?_
  refine zr_mem (fun M_79 eM => ?_)
  have hk := zOk_bnd eM hk
  obtain ⟨x6_80, ex⟩ : ∃ y : Int32, y = x6 + (zI 1) := ⟨_, rfl⟩
  have hk := zOk_bnd ex hk
  refine zr_iinc (v := x6_80) (L' := [(0, zrf E 30), (1, zrf E 11), (2, zrf E 3), (3, .int x3), (4, .int x4), (5, .int x5), (6, .int x6_80)]) h 6 [1, 2, 3, 4, 5, 6, 0] dX6_readRow_80 rfl (by rw [ex]; rfl) (by decide) rfl ?_
  refine zr_goto (tgt := 31) h dX6_readRow_83 (by decide) ?_
  have hk := zOk_some hk
  exact zr_weak h [0, 1, 2, 3, 4, 5, 6] rfl hk
noncomputable def f_X6_readRow_L31 (x3 : Int32) (x4 : Int32) (x5 : Int32) (s : (ZMem × Int32)) : Option ((ZMem × Int32) ⊕ (ZMem)) := if x5 ≤ s.2 then some (.inr s.1) else if x4 = (zI 0) then f_X6_readRow_57_L31 s.1 x3 x4 x5 s.2 x3 s.2 else f_X6_readRow_57_L31 s.1 x3 x4 x5 s.2 x3 ((x5 - (zI 1)) - s.2)
set_option maxRecDepth 100000 in
set_option maxHeartbeats 4000000 in
theorem w_X6_readRow_L31 {E : ZEv} {G : ZG} {K : ZMem → Prop} (h : zRu lyC E G (zRv K) cX6_readRow RX6 8 none 2) (x3 : Int32) (x4 : Int32) (x5 : Int32) (s : (ZMem × Int32)) (hk : zOk (zloop (f_X6_readRow_L31 x3 x4 x5) s) (fun e => G e 86 [] [])) : G s.1 31 [(0, zrf E 30), (1, zrf E 11), (2, zrf E 3), (3, .int x3), (4, .int x4), (5, .int x5), (6, .int s.2)] [] := by
  refine zloop_walk (P := fun s => G s.1 31 [(0, zrf E 30), (1, zrf E 11), (2, zrf E 3), (3, .int x3), (4, .int x4), (5, .int x5), (6, .int s.2)] []) hk (fun s hk => ?_)
  unfold f_X6_readRow_L31 at hk
  refine zr_iload h dX6_readRow_31 6 rfl ?_
  refine zr_iload h dX6_readRow_33 5 rfl ?_
  refine zr_icmp_ge (tgt := 86) h dX6_readRow_35 (by decide) (fun c => ?_) (fun c => ?_)
  · have hk := zOk_t c hk
    have hk := zOk_some hk
    exact zr_weak h [] rfl hk
  · have hk := zOk_f c hk
    refine zr_aload_n h dX6_readRow_38 1 rfl rfl ?_
    refine zr_iload_n h dX6_readRow_39 3 rfl rfl ?_
    refine zr_iload h dX6_readRow_40 4 rfl ?_
    refine zr_if_eq (tgt := 55) h dX6_readRow_42 (by decide) (fun c => ?_) (fun c => ?_)
    · have hk := zOk_t c hk
      refine zr_iload h dX6_readRow_55 6 rfl ?_
      exact w_X6_readRow_57_L31 h s.1 x3 x4 x5 s.2 x3 s.2 hk
    · have hk := zOk_f c hk
      refine zr_iload h dX6_readRow_45 5 rfl ?_
      refine zr_iconst (v := (zI 1)) h dX6_readRow_47 rfl ?_
      refine zr_isub h dX6_readRow_48 ?_
      refine zr_iload h dX6_readRow_49 6 rfl ?_
      refine zr_isub h dX6_readRow_51 ?_
      refine zr_goto (tgt := 57) h dX6_readRow_52 (by decide) ?_
      exact w_X6_readRow_57_L31 h s.1 x3 x4 x5 s.2 x3 ((x5 - (zI 1)) - s.2) hk
noncomputable def f_X6_readRow (M : ZMem) (x3 : Int32) (x4 : Int32) : Option ZMem := zbind (f_X6_isRow M x3) (fun r_1 => if r_1 = (zI 0) then some M else zbind (f_X7_lengthOf M x3) (fun r_12 => zbnd (if r_12 < (zI 10) then r_12 else (zI 10)) (fun x5_18 => zchk (zin x3 24) (zbnd (zstI M 32 (zix x3) x5_18) (fun M_27 => zbind (zloop (f_X6_readRow_L31 x3 x4 x5_18) (M_27, (zI 0))) (fun e31 => some e31))))))
set_option maxRecDepth 100000 in
set_option maxHeartbeats 4000000 in
theorem c_X6_readRow (E : ZEv) (M : ZMem) (x3 : Int32) (x4 : Int32) (K : ZMem → Prop) (hk : zOk (f_X6_readRow M x3 x4) K) : zCon lyC E yX6_readRow cX6_readRow 8 none 2 [zrf E 30, zrf E 11, zrf E 3, .int x3, .int x4] M (zRv K) := by
  refine zcon_of (L0 := [(0, zrf E 30), (1, zrf E 11), (2, zrf E 3), (3, .int x3), (4, .int x4)]) (by decide) rfl (Nat.le_of_ble_eq_true rfl) (fun G h => ?_)
  have h : zRu lyC E G (zRv K) cX6_readRow RX6 8 none 2 := h
  unfold f_X6_readRow at hk
  refine zr_iload_n h dX6_readRow_0 3 rfl rfl ?_
  refine zr_callSp h zcw_X6_56 (by decide) (c_X6_isRow E M x3 _ (zOk_bind hk)) rfl rfl (Nat.le_of_ble_eq_true rfl) dX6_readRow_1 (fun r_1 hk => ?_)
  refine zr_if_ne (tgt := 8) h dX6_readRow_4 (by decide) (fun c => ?_) (fun c => ?_)
  · have hk := zOk_t c hk
    have hk := zOk_some hk
    exact zr_vret h dX6_readRow_7 ⟨rfl, hk⟩
  · have hk := zOk_f c hk
    refine zr_bipush (v := (zI 10)) h dX6_readRow_8 (by decide) ?_
    refine zr_aload_n h dX6_readRow_10 1 rfl rfl ?_
    refine zr_iload_n h dX6_readRow_11 3 rfl rfl ?_
    refine zr_callVp h lC_11 zcw_X6_60 (by decide) (c_X7_lengthOf E M x3 _ (zOk_bind hk)) rfl rfl (Nat.le_of_ble_eq_true rfl) dX6_readRow_12 (fun r_12 hk => ?_)
    refine zr_mmin h (zm_30 _ (List.mem_of_getElem? (i := 15) rfl)) (zm_12 _ (List.mem_of_getElem? (i := 11) rfl)) (zm_12 _ (List.mem_of_getElem? (i := 12) rfl)) (zm_12 _ (List.mem_of_getElem? (i := 13) rfl)) (Nat.le_of_ble_eq_true rfl) dX6_readRow_15 ?_
    refine zr_topi (fun x5_18 ex => ?_)
    have hk := zOk_bnd ex hk
    refine zr_istore (L' := [(0, zrf E 30), (1, zrf E 11), (2, zrf E 3), (3, .int x3), (4, .int x4), (5, .int x5_18)]) h [1, 2, 3, 4, 5, 0] dX6_readRow_18 (by decide) rfl ?_
    refine zr_aload_n h dX6_readRow_20 0 rfl rfl ?_
    refine zr_getR h zfo_X6_15 lC_30 rfl dX6_readRow_21 ?_
    refine zr_iload_n h dX6_readRow_24 3 rfl rfl ?_
    refine zr_iload h dX6_readRow_25 5 rfl ?_
    have hb := zOk_chk hk
    have hk := hb.2
    refine zr_iast h lC_32 hb.1 dX6_readRow_27 ?_
    refine zr_mem (fun M_27 eM => ?_)
    have hk := zOk_bnd eM hk
    refine zr_iconst (v := (zI 0)) h dX6_readRow_28 rfl ?_
    refine zr_istore (L' := [(0, zrf E 30), (1, zrf E 11), (2, zrf E 3), (3, .int x3), (4, .int x4), (5, .int x5_18), (6, .int (zI 0))]) h [1, 2, 3, 4, 5, 6, 0] dX6_readRow_29 (by decide) rfl ?_
    refine w_X6_readRow_L31 h x3 x4 x5_18 (M_27, (zI 0)) (zOk_mono (zOk_bind hk) (fun e31 hk => ?_))
    have hk := zOk_some hk
    exact zr_vret h dX6_readRow_86 ⟨rfl, hk⟩
theorem dX6_settle_0 : decode cX6_settle 0 = .ok (.aload_n 0, 1) := by decide +kernel
theorem dX6_settle_1 : decode cX6_settle 1 = .ok (.getfield 15, 3) := by decide +kernel
theorem dX6_settle_4 : decode cX6_settle 4 = .ok (.iconst 0, 1) := by decide +kernel
theorem dX6_settle_5 : decode cX6_settle 5 = .ok (.invokestatic 21, 3) := by decide +kernel
theorem dX6_settle_8 : decode cX6_settle 8 = .ok (.aload_n 0, 1) := by decide +kernel
theorem dX6_settle_9 : decode cX6_settle 9 = .ok (.aload_n 1, 1) := by decide +kernel
theorem dX6_settle_10 : decode cX6_settle 10 = .ok (.aload_n 2, 1) := by decide +kernel
theorem dX6_settle_11 : decode cX6_settle 11 = .ok (.invokevirtual 27, 3) := by decide +kernel
theorem dX6_settle_14 : decode cX6_settle 14 = .ok (.iconst 0, 1) := by decide +kernel
theorem dX6_settle_15 : decode cX6_settle 15 = .ok (.istore 4, 2) := by decide +kernel
theorem dX6_settle_17 : decode cX6_settle 17 = .ok (.iload 4, 2) := by decide +kernel
theorem dX6_settle_19 : decode cX6_settle 19 = .ok (.aload_n 1, 1) := by decide +kernel
theorem dX6_settle_20 : decode cX6_settle 20 = .ok (.invokevirtual 31, 3) := by decide +kernel
theorem dX6_settle_23 : decode cX6_settle 23 = .ok (.if_icmp .ge 50, 3) := by decide +kernel
theorem dX6_settle_26 : decode cX6_settle 26 = .ok (.iconst 0, 1) := by decide +kernel
theorem dX6_settle_27 : decode cX6_settle 27 = .ok (.istore 5, 2) := by decide +kernel
theorem dX6_settle_29 : decode cX6_settle 29 = .ok (.iload 5, 2) := by decide +kernel
theorem dX6_settle_31 : decode cX6_settle 31 = .ok (.aload_n 1, 1) := by decide +kernel
theorem dX6_settle_32 : decode cX6_settle 32 = .ok (.iload 4, 2) := by decide +kernel
theorem dX6_settle_34 : decode cX6_settle 34 = .ok (.invokevirtual 37, 3) := by decide +kernel
theorem dX6_settle_37 : decode cX6_settle 37 = .ok (.if_icmp .ge 30, 3) := by decide +kernel
theorem dX6_settle_40 : decode cX6_settle 40 = .ok (.aload_n 0, 1) := by decide +kernel
theorem dX6_settle_41 : decode cX6_settle 41 = .ok (.aload_n 1, 1) := by decide +kernel
theorem dX6_settle_42 : decode cX6_settle 42 = .ok (.aload_n 2, 1) := by decide +kernel
theorem dX6_settle_43 : decode cX6_settle 43 = .ok (.aload_n 1, 1) := by decide +kernel
theorem dX6_settle_44 : decode cX6_settle 44 = .ok (.iload 4, 2) := by decide +kernel
theorem dX6_settle_46 : decode cX6_settle 46 = .ok (.iload 5, 2) := by decide +kernel
theorem dX6_settle_48 : decode cX6_settle 48 = .ok (.invokevirtual 41, 3) := by decide +kernel
theorem dX6_settle_51 : decode cX6_settle 51 = .ok (.aload_n 0, 1) := by decide +kernel
theorem dX6_settle_52 : decode cX6_settle 52 = .ok (.iload_n 3, 1) := by decide +kernel
theorem dX6_settle_53 : decode cX6_settle 53 = .ok (.iload 5, 2) := by decide +kernel
theorem dX6_settle_55 : decode cX6_settle 55 = .ok (.invokevirtual 45, 3) := by decide +kernel
theorem dX6_settle_58 : decode cX6_settle 58 = .ok (.invokevirtual 49, 3) := by decide +kernel
theorem dX6_settle_61 : decode cX6_settle 61 = .ok (.iinc 5 1, 3) := by decide +kernel
theorem dX6_settle_64 : decode cX6_settle 64 = .ok (.goto (-35), 3) := by decide +kernel
theorem dX6_settle_67 : decode cX6_settle 67 = .ok (.iinc 4 1, 3) := by decide +kernel
theorem dX6_settle_70 : decode cX6_settle 70 = .ok (.goto (-53), 3) := by decide +kernel
theorem dX6_settle_73 : decode cX6_settle 73 = .ok (.return_, 1) := by decide +kernel
noncomputable def f_X6_settle_L29 (x3 : Int32) (x4 : Int32) (s : (ZMem × Int32)) : Option ((ZMem × Int32) ⊕ (ZMem)) := zbind (f_X7_rowsOf s.1 x4) (fun r_34 => if r_34 ≤ s.2 then some (.inr s.1) else zbind (f_X7_rowNumber s.1 x4 s.2) (fun r_48 => zbind (f_X6_isTurned s.1 x3 s.2) (fun r_55 => zbind (f_X6_readRow s.1 r_48 r_55) (fun M_58 => zbnd (s.2 + (zI 1)) (fun x5_61 => some (.inl (M_58, x5_61)))))))
set_option maxRecDepth 100000 in
set_option maxHeartbeats 4000000 in
theorem w_X6_settle_L29 {E : ZEv} {G : ZG} {K : ZMem → Prop} (h : zRu lyC E G (zRv K) cX6_settle RX6 6 none 3) (x3 : Int32) (x4 : Int32) (s : (ZMem × Int32)) (hk : zOk (zloop (f_X6_settle_L29 x3 x4) s) (fun e => G e 67 [(0, zrf E 30), (1, zrf E 11), (2, zrf E 3), (3, .int x3), (4, .int x4)] [])) : G s.1 29 [(0, zrf E 30), (1, zrf E 11), (2, zrf E 3), (3, .int x3), (4, .int x4), (5, .int s.2)] [] := by
  refine zloop_walk (P := fun s => G s.1 29 [(0, zrf E 30), (1, zrf E 11), (2, zrf E 3), (3, .int x3), (4, .int x4), (5, .int s.2)] []) hk (fun s hk => ?_)
  unfold f_X6_settle_L29 at hk
  refine zr_iload h dX6_settle_29 5 rfl ?_
  refine zr_aload_n h dX6_settle_31 1 rfl rfl ?_
  refine zr_iload h dX6_settle_32 4 rfl ?_
  refine zr_callVp h lC_11 zcw_X6_37 (by decide) (c_X7_rowsOf E s.1 x4 _ (zOk_bind hk)) rfl rfl (Nat.le_of_ble_eq_true rfl) dX6_settle_34 (fun r_34 hk => ?_)
  refine zr_icmp_ge (tgt := 67) h dX6_settle_37 (by decide) (fun c => ?_) (fun c => ?_)
  · have hk := zOk_t c hk
    have hk := zOk_some hk
    exact zr_weak h [0, 1, 2, 3, 4] rfl hk
  · have hk := zOk_f c hk
    refine zr_aload_n h dX6_settle_40 0 rfl rfl ?_
    refine zr_aload_n h dX6_settle_41 1 rfl rfl ?_
    refine zr_aload_n h dX6_settle_42 2 rfl rfl ?_
    refine zr_aload_n h dX6_settle_43 1 rfl rfl ?_
    refine zr_iload h dX6_settle_44 4 rfl ?_
    refine zr_iload h dX6_settle_46 5 rfl ?_
    refine zr_callVp h lC_11 zcw_X6_41 (by decide) (c_X7_rowNumber E s.1 x4 s.2 _ (zOk_bind hk)) rfl rfl (Nat.le_of_ble_eq_true rfl) dX6_settle_48 (fun r_48 hk => ?_)
    refine zr_aload_n h dX6_settle_51 0 rfl rfl ?_
    refine zr_iload_n h dX6_settle_52 3 rfl rfl ?_
    refine zr_iload h dX6_settle_53 5 rfl ?_
    refine zr_callVp h lC_30 zcw_X6_45 (by decide) (c_X6_isTurned E s.1 x3 s.2 _ (zOk_bind hk)) rfl rfl (Nat.le_of_ble_eq_true rfl) dX6_settle_55 (fun r_55 hk => ?_)
    refine zr_callVv h lC_30 zcw_X6_49 (by decide) (c_X6_readRow E s.1 r_48 r_55 _ (zOk_bind hk)) rfl rfl (Nat.le_of_ble_eq_true rfl) dX6_settle_58 (fun M_58 hk => ?_)
    obtain ⟨x5_61, ex⟩ : ∃ y : Int32, y = s.2 + (zI 1) := ⟨_, rfl⟩
    have hk := zOk_bnd ex hk
    refine zr_iinc (v := x5_61) (L' := [(0, zrf E 30), (1, zrf E 11), (2, zrf E 3), (3, .int x3), (4, .int x4), (5, .int x5_61)]) h 5 [1, 2, 3, 4, 5, 0] dX6_settle_61 rfl (by rw [ex]; rfl) (by decide) rfl ?_
    refine zr_goto (tgt := 29) h dX6_settle_64 (by decide) ?_
    have hk := zOk_some hk
    exact zr_weak h [0, 1, 2, 3, 4, 5] rfl hk
noncomputable def f_X6_settle_L17 (x3 : Int32) (s : (ZMem × Int32)) : Option ((ZMem × Int32) ⊕ (ZMem)) := zbind (f_X7_told s.1) (fun r_20 => if r_20 ≤ s.2 then some (.inr s.1) else zbind (zloop (f_X6_settle_L29 x3 s.2) (s.1, (zI 0))) (fun e29 => zbnd (s.2 + (zI 1)) (fun x4_67 => some (.inl (e29, x4_67)))))
set_option maxRecDepth 100000 in
set_option maxHeartbeats 4000000 in
theorem w_X6_settle_L17 {E : ZEv} {G : ZG} {K : ZMem → Prop} (h : zRu lyC E G (zRv K) cX6_settle RX6 6 none 3) (x3 : Int32) (s : (ZMem × Int32)) (hk : zOk (zloop (f_X6_settle_L17 x3) s) (fun e => G e 73 [] [])) : G s.1 17 [(0, zrf E 30), (1, zrf E 11), (2, zrf E 3), (3, .int x3), (4, .int s.2)] [] := by
  refine zloop_walk (P := fun s => G s.1 17 [(0, zrf E 30), (1, zrf E 11), (2, zrf E 3), (3, .int x3), (4, .int s.2)] []) hk (fun s hk => ?_)
  unfold f_X6_settle_L17 at hk
  refine zr_iload h dX6_settle_17 4 rfl ?_
  refine zr_aload_n h dX6_settle_19 1 rfl rfl ?_
  refine zr_callVp h lC_11 zcw_X6_31 (by decide) (c_X7_told E s.1 _ (zOk_bind hk)) rfl rfl (Nat.le_of_ble_eq_true rfl) dX6_settle_20 (fun r_20 hk => ?_)
  refine zr_icmp_ge (tgt := 73) h dX6_settle_23 (by decide) (fun c => ?_) (fun c => ?_)
  · have hk := zOk_t c hk
    have hk := zOk_some hk
    exact zr_weak h [] rfl hk
  · have hk := zOk_f c hk
    refine zr_iconst (v := (zI 0)) h dX6_settle_26 rfl ?_
    refine zr_istore (L' := [(0, zrf E 30), (1, zrf E 11), (2, zrf E 3), (3, .int x3), (4, .int s.2), (5, .int (zI 0))]) h [1, 2, 3, 4, 5, 0] dX6_settle_27 (by decide) rfl ?_
    refine w_X6_settle_L29 h x3 s.2 (s.1, (zI 0)) (zOk_mono (zOk_bind hk) (fun e29 hk => ?_))
    obtain ⟨x4_67, ex⟩ : ∃ y : Int32, y = s.2 + (zI 1) := ⟨_, rfl⟩
    have hk := zOk_bnd ex hk
    refine zr_iinc (v := x4_67) (L' := [(0, zrf E 30), (1, zrf E 11), (2, zrf E 3), (3, .int x3), (4, .int x4_67)]) h 4 [1, 2, 3, 4, 0] dX6_settle_67 rfl (by rw [ex]; rfl) (by decide) rfl ?_
    refine zr_goto (tgt := 17) h dX6_settle_70 (by decide) ?_
    have hk := zOk_some hk
    exact zr_weak h [0, 1, 2, 3, 4] rfl hk
noncomputable def f_X6_settle (M : ZMem) (x3 : Int32) : Option ZMem := zbind (f_J7_fill_53178 32 24 M (zI 0)) (fun M_5 => zbind (f_X6_judge M_5) (fun M_11 => zbind (zloop (f_X6_settle_L17 x3) (M_11, (zI 0))) (fun e17 => some e17)))
set_option maxRecDepth 100000 in
set_option maxHeartbeats 4000000 in
theorem c_X6_settle (E : ZEv) (M : ZMem) (x3 : Int32) (K : ZMem → Prop) (hk : zOk (f_X6_settle M x3) K) : zCon lyC E yX6_settle cX6_settle 6 none 3 [zrf E 30, zrf E 11, zrf E 3, .int x3] M (zRv K) := by
  refine zcon_of (L0 := [(0, zrf E 30), (1, zrf E 11), (2, zrf E 3), (3, .int x3)]) (by decide) rfl (Nat.le_of_ble_eq_true rfl) (fun G h => ?_)
  have h : zRu lyC E G (zRv K) cX6_settle RX6 6 none 3 := h
  unfold f_X6_settle at hk
  refine zr_aload_n h dX6_settle_0 0 rfl rfl ?_
  refine zr_getR h zfo_X6_15 lC_30 rfl dX6_settle_1 ?_
  refine zr_iconst (v := (zI 0)) h dX6_settle_4 rfl ?_
  refine zr_callSv h zcw_X6_21 (by decide) (c_J7_fill_53178 E 32 24 lC_32 M (zI 0) _ (zOk_bind hk)) rfl rfl (Nat.le_of_ble_eq_true rfl) dX6_settle_5 (fun M_5 hk => ?_)
  refine zr_aload_n h dX6_settle_8 0 rfl rfl ?_
  refine zr_aload_n h dX6_settle_9 1 rfl rfl ?_
  refine zr_aload_n h dX6_settle_10 2 rfl rfl ?_
  refine zr_callVv h lC_30 zcw_X6_27 (by decide) (c_X6_judge E M_5 _ (zOk_bind hk)) rfl rfl (Nat.le_of_ble_eq_true rfl) dX6_settle_11 (fun M_11 hk => ?_)
  refine zr_iconst (v := (zI 0)) h dX6_settle_14 rfl ?_
  refine zr_istore (L' := [(0, zrf E 30), (1, zrf E 11), (2, zrf E 3), (3, .int x3), (4, .int (zI 0))]) h [1, 2, 3, 4, 0] dX6_settle_15 (by decide) rfl ?_
  refine w_X6_settle_L17 h x3 (M_11, (zI 0)) (zOk_mono (zOk_bind hk) (fun e17 hk => ?_))
  have hk := zOk_some hk
  exact zr_vret h dX6_settle_73 ⟨rfl, hk⟩
theorem dX6_allSigns_0 : decode cX6_allSigns 0 = .ok (.iconst 0, 1) := by decide +kernel
theorem dX6_allSigns_1 : decode cX6_allSigns 1 = .ok (.istore_n 1, 1) := by decide +kernel
theorem dX6_allSigns_2 : decode cX6_allSigns 2 = .ok (.iconst 0, 1) := by decide +kernel
theorem dX6_allSigns_3 : decode cX6_allSigns 3 = .ok (.istore_n 2, 1) := by decide +kernel
theorem dX6_allSigns_4 : decode cX6_allSigns 4 = .ok (.iload_n 2, 1) := by decide +kernel
theorem dX6_allSigns_5 : decode cX6_allSigns 5 = .ok (.bipush 24, 2) := by decide +kernel
theorem dX6_allSigns_7 : decode cX6_allSigns 7 = .ok (.if_icmp .ge 18, 3) := by decide +kernel
theorem dX6_allSigns_10 : decode cX6_allSigns 10 = .ok (.iload_n 1, 1) := by decide +kernel
theorem dX6_allSigns_11 : decode cX6_allSigns 11 = .ok (.aload_n 0, 1) := by decide +kernel
theorem dX6_allSigns_12 : decode cX6_allSigns 12 = .ok (.getfield 15, 3) := by decide +kernel
theorem dX6_allSigns_15 : decode cX6_allSigns 15 = .ok (.iload_n 2, 1) := by decide +kernel
theorem dX6_allSigns_16 : decode cX6_allSigns 16 = .ok (.iaload, 1) := by decide +kernel
theorem dX6_allSigns_17 : decode cX6_allSigns 17 = .ok (.iadd, 1) := by decide +kernel
theorem dX6_allSigns_18 : decode cX6_allSigns 18 = .ok (.istore_n 1, 1) := by decide +kernel
theorem dX6_allSigns_19 : decode cX6_allSigns 19 = .ok (.iinc 2 1, 3) := by decide +kernel
theorem dX6_allSigns_22 : decode cX6_allSigns 22 = .ok (.goto (-18), 3) := by decide +kernel
theorem dX6_allSigns_25 : decode cX6_allSigns 25 = .ok (.iload_n 1, 1) := by decide +kernel
theorem dX6_allSigns_26 : decode cX6_allSigns 26 = .ok (.ireturn, 1) := by decide +kernel
noncomputable def f_X6_allSigns_L4 (M : ZMem) (s : (Int32 × Int32)) : Option ((Int32 × Int32) ⊕ (Int32)) := if (zI 24) ≤ s.2 then some (.inr s.1) else zchk (zin s.2 24) (zbnd (s.1 + (M.1 32 (zix s.2))) (fun x1_18 => zbnd (s.2 + (zI 1)) (fun x2_19 => some (.inl (x1_18, x2_19)))))
set_option maxRecDepth 100000 in
set_option maxHeartbeats 4000000 in
theorem w_X6_allSigns_L4 {E : ZEv} {G : ZG} {K : Int32 → Prop} (M : ZMem) (h : zRu lyC E G (zRp M K) cX6_allSigns RX6 3 (some .int) 0) (s : (Int32 × Int32)) (hk : zOk (zloop (f_X6_allSigns_L4 M) s) (fun e => G M 25 [(1, .int e)] [])) : G M 4 [(0, zrf E 30), (1, .int s.1), (2, .int s.2)] [] := by
  refine zloop_walk (P := fun s => G M 4 [(0, zrf E 30), (1, .int s.1), (2, .int s.2)] []) hk (fun s hk => ?_)
  unfold f_X6_allSigns_L4 at hk
  refine zr_iload_n h dX6_allSigns_4 2 rfl rfl ?_
  refine zr_bipush (v := (zI 24)) h dX6_allSigns_5 (by decide) ?_
  refine zr_icmp_ge (tgt := 25) h dX6_allSigns_7 (by decide) (fun c => ?_) (fun c => ?_)
  · have hk := zOk_t c hk
    have hk := zOk_some hk
    exact zr_weak h [1] rfl hk
  · have hk := zOk_f c hk
    refine zr_iload_n h dX6_allSigns_10 1 rfl rfl ?_
    refine zr_aload_n h dX6_allSigns_11 0 rfl rfl ?_
    refine zr_getR h zfo_X6_15 lC_30 rfl dX6_allSigns_12 ?_
    refine zr_iload_n h dX6_allSigns_15 2 rfl rfl ?_
    have hb := zOk_chk hk
    have hk := hb.2
    refine zr_iald h lC_32 hb.1 dX6_allSigns_16 ?_
    refine zr_iadd h dX6_allSigns_17 ?_
    refine zr_topi (fun x1_18 ex => ?_)
    have hk := zOk_bnd ex hk
    refine zr_istore_n (L' := [(0, zrf E 30), (1, .int x1_18), (2, .int s.2)]) h [1, 0, 2] dX6_allSigns_18 rfl (by decide) rfl ?_
    obtain ⟨x2_19, ex⟩ : ∃ y : Int32, y = s.2 + (zI 1) := ⟨_, rfl⟩
    have hk := zOk_bnd ex hk
    refine zr_iinc (v := x2_19) (L' := [(0, zrf E 30), (1, .int x1_18), (2, .int x2_19)]) h 2 [1, 2, 0] dX6_allSigns_19 rfl (by rw [ex]; rfl) (by decide) rfl ?_
    refine zr_goto (tgt := 4) h dX6_allSigns_22 (by decide) ?_
    have hk := zOk_some hk
    exact zr_weak h [0, 1, 2] rfl hk
noncomputable def f_X6_allSigns (M : ZMem) : Option Int32 := zbind (zloop (f_X6_allSigns_L4 M) ((zI 0), (zI 0))) (fun e4 => some e4)
set_option maxRecDepth 100000 in
set_option maxHeartbeats 4000000 in
theorem c_X6_allSigns (E : ZEv) (M : ZMem) (K : Int32 → Prop) (hk : zOk (f_X6_allSigns M) K) : zCon lyC E yX6_allSigns cX6_allSigns 3 (some .int) 0 [zrf E 30] M (zRp M K) := by
  refine zcon_of (L0 := [(0, zrf E 30)]) (by decide) rfl (Nat.le_of_ble_eq_true rfl) (fun G h => ?_)
  have h : zRu lyC E G (zRp M K) cX6_allSigns RX6 3 (some .int) 0 := h
  unfold f_X6_allSigns at hk
  refine zr_iconst (v := (zI 0)) h dX6_allSigns_0 rfl ?_
  refine zr_istore_n (L' := [(0, zrf E 30), (1, .int (zI 0))]) h [1, 0] dX6_allSigns_1 rfl (by decide) rfl ?_
  refine zr_iconst (v := (zI 0)) h dX6_allSigns_2 rfl ?_
  refine zr_istore_n (L' := [(0, zrf E 30), (1, .int (zI 0)), (2, .int (zI 0))]) h [1, 2, 0] dX6_allSigns_3 rfl (by decide) rfl ?_
  refine w_X6_allSigns_L4 M h ((zI 0), (zI 0)) (zOk_mono (zOk_bind hk) (fun e4 hk => ?_))
  refine zr_iload_n h dX6_allSigns_25 0 rfl rfl ?_
  have hk := zOk_some hk
  exact zr_iret h dX6_allSigns_26 ⟨rfl, _, rfl, hk⟩
theorem dX6_timesOf_0 : decode cX6_timesOf 0 = .ok (.aload_n 0, 1) := by decide +kernel
theorem dX6_timesOf_1 : decode cX6_timesOf 1 = .ok (.iload_n 1, 1) := by decide +kernel
theorem dX6_timesOf_2 : decode cX6_timesOf 2 = .ok (.invokevirtual 97, 3) := by decide +kernel
theorem dX6_timesOf_5 : decode cX6_timesOf 5 = .ok (.aload_n 0, 1) := by decide +kernel
theorem dX6_timesOf_6 : decode cX6_timesOf 6 = .ok (.getfield 101, 3) := by decide +kernel
theorem dX6_timesOf_9 : decode cX6_timesOf 9 = .ok (.ireturn, 1) := by decide +kernel
noncomputable def f_X6_timesOf (M : ZMem) (x1 : Int32) : Option (ZMem × Int32) := zbind (f_X6_startPiece M x1) (fun M_2 => some (M_2, (M_2.1 30 3)))
set_option maxRecDepth 100000 in
set_option maxHeartbeats 4000000 in
theorem c_X6_timesOf (E : ZEv) (M : ZMem) (x1 : Int32) (K : ZMem × Int32 → Prop) (hk : zOk (f_X6_timesOf M x1) K) : zCon lyC E yX6_timesOf cX6_timesOf 2 (some .int) 1 [zrf E 30, .int x1] M (zRm K) := by
  refine zcon_of (L0 := [(0, zrf E 30), (1, .int x1)]) (by decide) rfl (Nat.le_of_ble_eq_true rfl) (fun G h => ?_)
  have h : zRu lyC E G (zRm K) cX6_timesOf RX6 2 (some .int) 1 := h
  unfold f_X6_timesOf at hk
  refine zr_aload_n h dX6_timesOf_0 0 rfl rfl ?_
  refine zr_iload_n h dX6_timesOf_1 1 rfl rfl ?_
  refine zr_callVv h lC_30 zcw_X6_97 (by decide) (c_X6_startPiece E M x1 _ (zOk_bind hk)) rfl rfl (Nat.le_of_ble_eq_true rfl) dX6_timesOf_2 (fun M_2 hk => ?_)
  refine zr_aload_n h dX6_timesOf_5 0 rfl rfl ?_
  refine zr_getI h zfo_X6_101 lC_30 rfl dX6_timesOf_6 ?_
  have hk := zOk_some hk
  exact zr_iret h dX6_timesOf_9 ⟨_, rfl, hk⟩
theorem dX6_timesAhead_0 : decode cX6_timesAhead 0 = .ok (.aload_n 0, 1) := by decide +kernel
theorem dX6_timesAhead_1 : decode cX6_timesAhead 1 = .ok (.iload_n 1, 1) := by decide +kernel
theorem dX6_timesAhead_2 : decode cX6_timesAhead 2 = .ok (.invokevirtual 97, 3) := by decide +kernel
theorem dX6_timesAhead_5 : decode cX6_timesAhead 5 = .ok (.aload_n 0, 1) := by decide +kernel
theorem dX6_timesAhead_6 : decode cX6_timesAhead 6 = .ok (.iload_n 2, 1) := by decide +kernel
theorem dX6_timesAhead_7 : decode cX6_timesAhead 7 = .ok (.invokevirtual 104, 3) := by decide +kernel
theorem dX6_timesAhead_10 : decode cX6_timesAhead 10 = .ok (.aload_n 0, 1) := by decide +kernel
theorem dX6_timesAhead_11 : decode cX6_timesAhead 11 = .ok (.getfield 101, 3) := by decide +kernel
theorem dX6_timesAhead_14 : decode cX6_timesAhead 14 = .ok (.ireturn, 1) := by decide +kernel
noncomputable def f_X6_timesAhead (M : ZMem) (x1 : Int32) (x2 : Int32) : Option (ZMem × Int32) := zbind (f_X6_startPiece M x1) (fun M_2 => zbind (f_X6_growPiece M_2 x2) (fun M_7 => some (M_7, (M_7.1 30 3))))
set_option maxRecDepth 100000 in
set_option maxHeartbeats 4000000 in
theorem c_X6_timesAhead (E : ZEv) (M : ZMem) (x1 : Int32) (x2 : Int32) (K : ZMem × Int32 → Prop) (hk : zOk (f_X6_timesAhead M x1 x2) K) : zCon lyC E yX6_timesAhead cX6_timesAhead 3 (some .int) 2 [zrf E 30, .int x1, .int x2] M (zRm K) := by
  refine zcon_of (L0 := [(0, zrf E 30), (1, .int x1), (2, .int x2)]) (by decide) rfl (Nat.le_of_ble_eq_true rfl) (fun G h => ?_)
  have h : zRu lyC E G (zRm K) cX6_timesAhead RX6 3 (some .int) 2 := h
  unfold f_X6_timesAhead at hk
  refine zr_aload_n h dX6_timesAhead_0 0 rfl rfl ?_
  refine zr_iload_n h dX6_timesAhead_1 1 rfl rfl ?_
  refine zr_callVv h lC_30 zcw_X6_97 (by decide) (c_X6_startPiece E M x1 _ (zOk_bind hk)) rfl rfl (Nat.le_of_ble_eq_true rfl) dX6_timesAhead_2 (fun M_2 hk => ?_)
  refine zr_aload_n h dX6_timesAhead_5 0 rfl rfl ?_
  refine zr_iload_n h dX6_timesAhead_6 2 rfl rfl ?_
  refine zr_callVv h lC_30 zcw_X6_104 (by decide) (c_X6_growPiece E M_2 x2 _ (zOk_bind hk)) rfl rfl (Nat.le_of_ble_eq_true rfl) dX6_timesAhead_7 (fun M_7 hk => ?_)
  refine zr_aload_n h dX6_timesAhead_10 0 rfl rfl ?_
  refine zr_getI h zfo_X6_101 lC_30 rfl dX6_timesAhead_11 ?_
  have hk := zOk_some hk
  exact zr_iret h dX6_timesAhead_14 ⟨_, rfl, hk⟩
theorem dX6_foundTimes_0 : decode cX6_foundTimes 0 = .ok (.aload_n 0, 1) := by decide +kernel
theorem dX6_foundTimes_1 : decode cX6_foundTimes 1 = .ok (.getfield 101, 3) := by decide +kernel
theorem dX6_foundTimes_4 : decode cX6_foundTimes 4 = .ok (.ireturn, 1) := by decide +kernel
noncomputable def f_X6_foundTimes (M : ZMem) : Option Int32 := some (M.1 30 3)
set_option maxRecDepth 100000 in
set_option maxHeartbeats 4000000 in
theorem c_X6_foundTimes (E : ZEv) (M : ZMem) (K : Int32 → Prop) (hk : zOk (f_X6_foundTimes M) K) : zCon lyC E yX6_foundTimes cX6_foundTimes 1 (some .int) 0 [zrf E 30] M (zRp M K) := by
  refine zcon_of (L0 := [(0, zrf E 30)]) (by decide) rfl (Nat.le_of_ble_eq_true rfl) (fun G h => ?_)
  have h : zRu lyC E G (zRp M K) cX6_foundTimes RX6 1 (some .int) 0 := h
  unfold f_X6_foundTimes at hk
  refine zr_aload_n h dX6_foundTimes_0 0 rfl rfl ?_
  refine zr_getI h zfo_X6_101 lC_30 rfl dX6_foundTimes_1 ?_
  have hk := zOk_some hk
  exact zr_iret h dX6_foundTimes_4 ⟨rfl, _, rfl, hk⟩
